theorem wm_176 : Cond.fieldLink RX2 15 "AGapEveryTwenty$Plans" "order" "[I" ∈ gBIG := gm (List.mem_of_getElem? (i := 230) (by decide +kernel)) (by decide +kernel)
theorem wm_177 : Cond.fieldLink RX8 242 "AGapEveryTwenty$Plans" "order" "[I" ∈ gBIG := gm (List.mem_of_getElem? (i := 231) (by decide +kernel)) (by decide +kernel)
theorem wm_178 : Cond.fieldLink RX2 19 "AGapEveryTwenty$Plans" "besides" "[I" ∈ gBIG := gm (List.mem_of_getElem? (i := 232) (by decide +kernel)) (by decide +kernel)
theorem wm_236 : Cond.fieldLink RX8 249 "AGapEveryTwenty$Lots" "had" "I" ∈ gBIG := gm (List.mem_of_getElem? (i := 290) (by decide +kernel)) (by decide +kernel)
theorem wm_238 : Cond.fieldLink RX8 252 "AGapEveryTwenty$Lots" "fell" "I" ∈ gBIG := gm (List.mem_of_getElem? (i := 292) (by decide +kernel)) (by decide +kernel)
theorem wm_656 : Cond.methodLink RX8 218 yX2_atOnce ∈ gBIG := gm (List.mem_of_getElem? (i := 710) (by decide +kernel)) (by decide +kernel)
theorem wm_657 : Cond.instanceMethod yX2_atOnce ∈ gBIG := gm (List.mem_of_getElem? (i := 711) (by decide +kernel)) (by decide +kernel)
theorem wm_658 : Cond.selects RX2 yX2_atOnce yX2_atOnce ∈ gBIG := gm (List.mem_of_getElem? (i := 712) (by decide +kernel)) (by decide +kernel)
theorem wm_659 : Cond.code yX2_atOnce cX2_atOnce 5 (some .long) ∈ gBIG := gm (List.mem_of_getElem? (i := 713) (by decide +kernel)) (by decide +kernel)
theorem wm_660 : Cond.methodLink RX2 68 yX2_arrange ∈ gBIG := gm (List.mem_of_getElem? (i := 714) (by decide +kernel)) (by decide +kernel)
theorem wm_661 : Cond.instanceMethod yX2_arrange ∈ gBIG := gm (List.mem_of_getElem? (i := 715) (by decide +kernel)) (by decide +kernel)
theorem wm_662 : Cond.selects RX2 yX2_arrange yX2_arrange ∈ gBIG := gm (List.mem_of_getElem? (i := 716) (by decide +kernel)) (by decide +kernel)
theorem wm_663 : Cond.code yX2_arrange cX2_arrange 6 none ∈ gBIG := gm (List.mem_of_getElem? (i := 717) (by decide +kernel)) (by decide +kernel)
theorem wm_664 : Cond.constantLong RX2 72 (1000000000) ∈ gBIG := gm (List.mem_of_getElem? (i := 718) (by decide +kernel)) (by decide +kernel)
theorem wm_715 : Cond.methodLink RX8 239 yX2_arrange ∈ gBIG := gm (List.mem_of_getElem? (i := 769) (by decide +kernel)) (by decide +kernel)
theorem wm_716 : Cond.methodLink RX8 245 yX0_drawRow ∈ gBIG := gm (List.mem_of_getElem? (i := 770) (by decide +kernel)) (by decide +kernel)
theorem wm_717 : Cond.instanceMethod yX0_drawRow ∈ gBIG := gm (List.mem_of_getElem? (i := 771) (by decide +kernel)) (by decide +kernel)
theorem wm_718 : Cond.selects RX0 yX0_drawRow yX0_drawRow ∈ gBIG := gm (List.mem_of_getElem? (i := 772) (by decide +kernel)) (by decide +kernel)
theorem wm_719 : Cond.code yX0_drawRow cX0_drawRow 5 none ∈ gBIG := gm (List.mem_of_getElem? (i := 773) (by decide +kernel)) (by decide +kernel)
theorem wm_732 : Cond.constant RX8 255 (65535) ∈ gBIG := gm (List.mem_of_getElem? (i := 786) (by decide +kernel)) (by decide +kernel)
theorem wm_733 : Cond.methodLink RX8 256 yX8_commonDivisor ∈ gBIG := gm (List.mem_of_getElem? (i := 787) (by decide +kernel)) (by decide +kernel)
theorem wm_734 : Cond.static yX8_commonDivisor ∈ gBIG := gm (List.mem_of_getElem? (i := 788) (by decide +kernel)) (by decide +kernel)
theorem wm_735 : Cond.code yX8_commonDivisor cX8_commonDivisor 3 (some .int) ∈ gBIG := gm (List.mem_of_getElem? (i := 789) (by decide +kernel)) (by decide +kernel)
/-! a plan's order: its many places are sixteen at most -/
def gcN (x : Int) : Nat → Int
  | 0 => 0
  | n + 1 => gcN x n + (if iand (ishr x (n : Int)) 1 = 1 then 1 else 0)
def gc (x p : Int) : Int := gcN x p.toNat
theorem gc_0 (x : Int) : gc x 0 = 0 := rfl
theorem gc_s (x : Int) {p : Int} (h : 0 ≤ p) : gc x (p + 1) = gc x p + (if iand (ishr x p) 1 = 1 then 1 else 0) := by
  obtain ⟨n, rfl⟩ : ∃ n : Nat, p = (n : Int) := ⟨p.toNat, by omega⟩
  unfold gc
  have e : ((n : Int) + 1).toNat = n + 1 := by omega
  rw [e]
  have e2 : ((n : Int)).toNat = n := by omega
  rw [e2]
  rfl
theorem gc_bit {x p : Int} (h : 0 ≤ p) (hb : iand (ishr x p) 1 = 1) : gc x (p + 1) = gc x p + 1 := by rw [gc_s x h, if_pos hb]
theorem gc_no {x p : Int} (h : 0 ≤ p) (hb : ¬ iand (ishr x p) 1 = 1) : gc x (p + 1) = gc x p := by rw [gc_s x h, if_neg hb]; omega
theorem gcN_nn (x : Int) : ∀ n : Nat, 0 ≤ gcN x n
  | 0 => Int.le_refl 0
  | n + 1 => by
    have h := gcN_nn x n
    unfold gcN
    split <;> omega
theorem gc_nn (x p : Int) : 0 ≤ gc x p := gcN_nn x _
theorem gcN_mono (x : Int) (n : Nat) : ∀ d : Nat, gcN x n ≤ gcN x (n + d)
  | 0 => Int.le_refl _
  | d + 1 => by
    have h := gcN_mono x n d
    have e : gcN x (n + (d + 1)) = gcN x (n + d) + (if iand (ishr x ((n + d : Nat) : Int)) 1 = 1 then 1 else 0) := rfl
    rw [e]
    split <;> omega
theorem gc_mono (x : Int) {p q : Int} (h0 : 0 ≤ p) (h : p ≤ q) : gc x p ≤ gc x q := by
  unfold gc
  have e : q.toNat = p.toNat + (q.toNat - p.toNat) := by omega
  rw [e]
  exact gcN_mono x _ _
theorem gc_run {x a : Int} (h0 : 0 ≤ a) : ∀ d : Nat, (∀ j, a ≤ j → j < a + (d : Int) → ¬ bitS x j) → gc x (a + (d : Int)) = gc x a
  | 0, _ => by
    have e : a + ((0 : Nat) : Int) = a := by omega
    rw [e]
  | d + 1, h => by
    have h1 := gc_run h0 d (fun j h2 h3 => h j h2 (by omega))
    have e : a + ((d + 1 : Nat) : Int) = (a + (d : Int)) + 1 := by omega
    rw [e, gc_no (by omega) (h (a + (d : Int)) (by omega) (by omega))]
    exact h1
def ARR (k : Int → Int) (x m p : Int) : Prop := ∃ E, p ≤ E ∧ E ≤ 16 ∧ m + gc x E ≤ E ∧ ∀ j, p ≤ j → j < E → ¬ BGN k x j
theorem ARR_0 (k : Int → Int) (x : Int) : ARR k x 0 0 := ⟨0, by omega, by omega, by rw [gc_0]; omega, fun j h1 h2 => absurd h1 (by omega)⟩
theorem ARR_skip {k : Int → Int} {x m p : Int} (h : ARR k x m p) (h0 : 0 ≤ p) (h1 : p ≤ 15) (_hb : ¬ BGN k x p) : ARR k x m (p + 1) := by
  obtain ⟨E, a1, a2, a3, a4⟩ := h
  by_cases e : p = E
  · refine ⟨p + 1, by omega, by omega, ?_, fun j h2 h3 => absurd h2 (by omega)⟩
    have := gc_s x h0
    rw [this]
    rw [← e] at a3
    split <;> omega
  · exact ⟨E, by omega, a2, a3, fun j h2 h3 => a4 j (by omega) h3⟩
theorem ARR_at {k : Int → Int} {x m p : Int} (h : ARR k x m p) (hb : BGN k x p) : m + gc x p ≤ p := by
  obtain ⟨E, a1, a2, a3, a4⟩ := h
  by_cases e : p = E
  · rw [e]; exact a3
  · exact absurd hb (a4 p (by omega) (by omega))
theorem ARR_le {k : Int → Int} {x m p : Int} (h : ARR k x m p) (hb : BGN k x p) : m ≤ p := by
  have h1 := ARR_at h hb
  have h2 := gc_nn x p
  omega
theorem BGN_yes {k : Int → Int} {x p r : Int} (h : (r = 1 ∧ BGN k x p) ∨ (r = 0 ∧ ¬ BGN k x p)) (h1 : ¬ r = 0) : BGN k x p := by
  rcases h with h | h
  · exact h.2
  · exact absurd h.1 h1
theorem BGN_not {k : Int → Int} {x p r : Int} (h : (r = 1 ∧ BGN k x p) ∨ (r = 0 ∧ ¬ BGN k x p)) (h1 : r = 0) : ¬ BGN k x p := by
  rcases h with h | h
  · omega
  · exact h.2
theorem ARR_add {k : Int → Int} {x m p b m2 : Int} (h : ARR k x m p) (hb : BGN k x p) (hr : RUN k x p b) (h0 : 0 ≤ p) (h1 : p ≤ b) (h2 : b ≤ 15) (hk : b = p ∨ ¬ k p = 4) (hm : m2 = m + (b - p + 1)) : ARR k x m2 (p + 1) := by
  refine ⟨b + 1, by omega, by omega, ?_, ?_⟩
  · have h3 := ARR_at h hb
    have h4 := gc_run (x := x) h0 (b + 1 - p).toNat (fun j h5 h6 => by
      by_cases e : j = p
      · rw [e]; exact hb.1
      · exact (hr j (by omega) (by omega)).1)
    have e : p + (((b + 1 - p).toNat : Nat) : Int) = b + 1 := by omega
    rw [e] at h4
    rw [h4]
    omega
  · intro j h3 h4 h5
    have h6 := hr j (by omega) (by omega)
    rcases h5.2 with h7 | h7 | h7 | h7
    · omega
    · by_cases e : j - 1 = p
      · rw [e] at h7; exact hb.1 h7
      · exact (hr (j - 1) (by omega) (by omega)).1 h7
    · by_cases e : j - 1 = p
      · rw [e] at h7; omega
      · exact (hr (j - 1) (by omega) (by omega)).2 h7
    · exact h6.2 h7
def GE2 (x m p : Int) : Prop := m + gc x 16 ≤ 16 + gc x p
theorem GE2_0 {k : Int → Int} {x m p : Int} (h : ARR k x m p) (hp : p = 16) : GE2 x m 0 := by
  obtain ⟨E, a1, a2, a3, _⟩ := h
  have e : E = 16 := by omega
  rw [e] at a3
  unfold GE2
  rw [gc_0]
  omega
theorem GE2_use {x m p : Int} (h : GE2 x m p) (h0 : 0 ≤ p) (h1 : p ≤ 15) (hb : iand (ishr x p) 1 = 1) : m ≤ 15 := by
  have h2 := gc_mono x (p := p + 1) (q := 16) (by omega) (by omega)
  rw [gc_bit h0 hb] at h2
  unfold GE2 at h
  omega
theorem GE2_bit {x m p : Int} (h : GE2 x m p) (h0 : 0 ≤ p) (hb : iand (ishr x p) 1 = 1) : GE2 x (m + 1) (p + 1) := by
  unfold GE2 at h ⊢
  rw [gc_bit h0 hb]
  omega
theorem GE2_no {x m p : Int} (h : GE2 x m p) (h0 : 0 ≤ p) (hb : ¬ iand (ishr x p) 1 = 1) : GE2 x m (p + 1) := by
  unfold GE2 at h ⊢
  rw [gc_no h0 hb]
  omega
theorem ARR_cg {k : Int → Int} {x m p m2 : Int} (h : ARR k x m p) (e : m = m2) : ARR k x m2 p := e ▸ h
theorem GE2_cg {x m p m2 p2 : Int} (h : GE2 x m p) (e : m = m2) (e2 : p = p2) : GE2 x m2 p2 := e ▸ e2 ▸ h

def w_X2_arrange_30 (c1 : Int) (c3 : Int) (c4 : Int) : Nat → Int → Int → gMem → Int × Int × gMem
  | 0, v24, v25, s26 => (v24, v25, s26)
  | n27 + 1, v24, v25, s26 => (if (c4 - c3) < v25 then (v24, v25, s26) else gl (mset s26 43 v24 (f_X2_upAfter c3 c4 v25 s26)) (fun s33 => gl (mset s33 44 v24 v25) (fun s34 => (w_X2_arrange_30 c1 c3 c4 n27 (v24 + 1) (v25 + 1) s34))))
theorem w_X2_arrange_30_s (c1 : Int) (c3 : Int) (c4 : Int) (n27 : Nat) (v24 : Int) (v25 : Int) (s26 : gMem) : w_X2_arrange_30 c1 c3 c4 (n27 + 1) v24 v25 s26 = (if (c4 - c3) < v25 then (v24, v25, s26) else gl (mset s26 43 v24 (f_X2_upAfter c3 c4 v25 s26)) (fun s33 => gl (mset s33 44 v24 v25) (fun s34 => (w_X2_arrange_30 c1 c3 c4 n27 (v24 + 1) (v25 + 1) s34)))) := rfl
def w_X2_arrange_4 (c1 : Int) : Nat → Int → Int → gMem → Int × Int × gMem
  | 0, v1, v2, s3 => (v1, v2, s3)
  | n4 + 1, v1, v2, s3 => (if v2 < 16 then (gj (fun j11c => (if (f_X2_begins v2 c1 s3) = 0 then (j11c v1 s3) else (gl3 (w_X2_arrange_30 c1 v2 (f_X2_lastOf v2 c1 s3) 17 v1 0 s3) (fun v68 v69 s70 => (j11c v68 s70))))) (fun v12 s13 => (w_X2_arrange_4 c1 n4 v12 (v2 + 1) s13))) else (v1, v2, s3))
theorem w_X2_arrange_4_s (c1 : Int) (n4 : Nat) (v1 : Int) (v2 : Int) (s3 : gMem) : w_X2_arrange_4 c1 (n4 + 1) v1 v2 s3 = (if v2 < 16 then (gj (fun j11c => (if (f_X2_begins v2 c1 s3) = 0 then (j11c v1 s3) else (gl3 (w_X2_arrange_30 c1 v2 (f_X2_lastOf v2 c1 s3) 17 v1 0 s3) (fun v68 v69 s70 => (j11c v68 s70))))) (fun v12 s13 => (w_X2_arrange_4 c1 n4 v12 (v2 + 1) s13))) else (v1, v2, s3)) := rfl
def w_X2_arrange_79 (c1 : Int) : Nat → Int → Int → gMem → Int × Int × gMem
  | 0, v184, v185, s186 => (v184, v185, s186)
  | n187 + 1, v184, v185, s186 => (if v185 < 16 then (gl2 ((if (f_X8_has c1 v185) = 0 then (v184, s186) else gl (mset s186 43 v184 v185) (fun s202 => gl (mset s202 44 v184 0) (fun s203 => ((v184 + 1), s203))))) (fun v195 s196 => (w_X2_arrange_79 c1 n187 v195 (v185 + 1) s196))) else (v184, v185, s186))
theorem w_X2_arrange_79_s (c1 : Int) (n187 : Nat) (v184 : Int) (v185 : Int) (s186 : gMem) : w_X2_arrange_79 c1 (n187 + 1) v184 v185 s186 = (if v185 < 16 then (gl2 ((if (f_X8_has c1 v185) = 0 then (v184, s186) else gl (mset s186 43 v184 v185) (fun s202 => gl (mset s202 44 v184 0) (fun s203 => ((v184 + 1), s203))))) (fun v195 s196 => (w_X2_arrange_79 c1 n187 v195 (v185 + 1) s196))) else (v184, v185, s186)) := rfl
def f_X2_arrange (x0 : Int) (s0 : gMem) : gRes := (gl3 (w_X2_arrange_4 x0 17 0 0 s0) (fun v175 v176 s177 => (gl3 (w_X2_arrange_79 x0 17 v175 0 s177) (fun v238 v239 s240 => (0, s240)))))
theorem f_X2_arrange_e (x0 : Int) (s0 : gMem) : f_X2_arrange x0 s0 = (gl3 (w_X2_arrange_4 x0 17 0 0 s0) (fun v175 v176 s177 => (gl3 (w_X2_arrange_79 x0 17 v175 0 s177) (fun v238 v239 s240 => (0, s240))))) := rfl
set_option maxRecDepth 100000 in
set_option maxHeartbeats 4000000 in
theorem f_X2_arrange_p (x0 : Int) (s0 : gMem) (hx0 : in32 x0) (hm_s0 : gMR lgX s0) (hpre0 : ORx s0) (hpre1 : BEx s0) (hpre2 : WY s0) (rZ : Int) (sZ : gMem) (hres : f_X2_arrange x0 s0 = (rZ, sZ)) : (fr [43, 44] s0 sZ) ∧ (gMR lgX sZ) ∧ (True) ∧ (ORx sZ) ∧ (BEx sZ) := by
  have hT := f_X2_arrange_e x0 s0
  have hf_s0 : fr [43, 44] s0 s0 := fr.rf _ _
  have hORx_s0 := hpre0
  have hBEx_s0 := hpre1
  have L84 : ∀ (n85 : Nat) (v81 : Int) (v82 : Int) (s83 : gMem), ((in32 v81) ∧ (in32 v82) ∧ (fr [43, 44] s0 s83) ∧ (gMR lgX s83) ∧ (ORx s83) ∧ (BEx s83) ∧ (0 ≤ v82 ∧ v82 ≤ 16) ∧ (0 ≤ v81) ∧ (ARR (s0 40) x0 v81 v82)) → 16 - v82 < (n85 : Int) → (∀ (w86 : Int) (w87 : Int) (s88 : gMem), (w_X2_arrange_4 x0 n85 v81 v82 s83) = (w86, w87, s88) → ((in32 w86) ∧ (in32 w87) ∧ (fr [43, 44] s0 s88) ∧ (gMR lgX s88) ∧ (ORx s88) ∧ (BEx s88) ∧ (0 ≤ w87 ∧ w87 ≤ 16) ∧ (0 ≤ w86) ∧ (ARR (s0 40) x0 w86 w87) ∧ (w87 = 16)) → (fr [43, 44] s0 sZ) ∧ (gMR lgX sZ) ∧ (True) ∧ (ORx sZ) ∧ (BEx sZ)) → (fr [43, 44] s0 sZ) ∧ (gMR lgX sZ) ∧ (True) ∧ (ORx sZ) ∧ (BEx sZ) := by
    intro n85; induction n85 with
    | zero =>
      intro v81 v82 s83 hq hm hk
      exfalso
      obtain ⟨hq165, hq166, hf_s83, hm_s83, hORx_s83, hBEx_s83, hq167, hq168, hq169⟩ := hq
      omega
    | succ n85 ih =>
      intro v81 v82 s83 hq hm hk
      obtain ⟨hq170, hq171, hf_s83, hm_s83, hORx_s83, hBEx_s83, hq172, hq173, hq174⟩ := hq
      have hT := w_X2_arrange_4_s x0 n85 v81 v82 s83
      by_cases h89 : v82 < 16
      · replace hT := hT.trans (if_pos h89)
        have hp91 := f_X2_begins_p v82 x0 s83 (by omega) (by omega) hm_s83 (by first | assumption | omega)
        try simp only [hf_s83 40 (by decide)] at hp91
        obtain ⟨hp92, hp93⟩ := hp91
        obtain ⟨j95c, hj95c, hT⟩ := gjx hT
        have j95 : ∀ (v96 : Int) (s97 : gMem), ((in32 v96) ∧ (fr [43, 44] s0 s97) ∧ (gMR lgX s97) ∧ (ORx s97) ∧ (BEx s97) ∧ (0 ≤ v82 ∧ v82 ≤ 15) ∧ (0 ≤ v96) ∧ (ARR (s0 40) x0 v96 (v82 + 1))) → (w_X2_arrange_4 x0 (n85 + 1) v81 v82 s83) = j95c v96 s97 → (fr [43, 44] s0 sZ) ∧ (gMR lgX sZ) ∧ (True) ∧ (ORx sZ) ∧ (BEx sZ) := by
          intro v96 s97 hq hT
          obtain ⟨hq98, hf_s97, hm_s97, hORx_s97, hBEx_s97, hq99, hq100, hq101⟩ := hq
          rw [hj95c] at hT
          exact ih v96 (v82 + 1) s97 ⟨(by omega), (by omega), hf_s97, hm_s97, hORx_s97, hBEx_s97, (by first | assumption | omega), (by first | assumption | omega), (by first | assumption | exact ARR_0 _ _ | exact ARR_skip (by assumption) (by omega) (by omega) (BGN_not (by assumption) (by omega)) | exact ARR_cg (by assumption) (by omega) | exact ARR_add (by assumption) (by assumption) (by assumption) (by omega) (by omega) (by omega) (by omega) (by omega))⟩ (by omega) (fun w86 w87 s88 hw hi => hk w86 w87 s88 (hT.trans hw) hi)
        by_cases h94 : (f_X2_begins v82 x0 s83) = 0
        · replace hT := hT.trans (if_pos h94)
          exact j95 v81 s83 ⟨(by omega), hf_s83, hm_s83, hORx_s83, hBEx_s83, (by first | assumption | omega), (by first | assumption | omega), (by first | assumption | exact ARR_0 _ _ | exact ARR_skip (by assumption) (by omega) (by omega) (BGN_not (by assumption) (by omega)) | exact ARR_cg (by assumption) (by omega) | exact ARR_add (by assumption) (by assumption) (by assumption) (by omega) (by omega) (by omega) (by omega) (by omega))⟩ hT
        · replace hT := hT.trans (if_neg h94)
          have hp103 := f_X2_lastOf_p v82 x0 s83 (by omega) (by omega) hm_s83 (by first | assumption | omega)
          try simp only [hf_s83 40 (by decide)] at hp103
          obtain ⟨hp104, hp105, hp106, hp107⟩ := hp103
          have L122 : ∀ (n123 : Nat) (v119 : Int) (v120 : Int) (s121 : gMem), ((in32 v119) ∧ (in32 v120) ∧ (fr [43, 44] s0 s121) ∧ (gMR lgX s121) ∧ (ORx s121) ∧ (BEx s121) ∧ (0 ≤ v82 ∧ v82 ≤ (f_X2_lastOf v82 x0 s83) ∧ (f_X2_lastOf v82 x0 s83) ≤ 15) ∧ (0 ≤ v120 ∧ v120 ≤ (f_X2_lastOf v82 x0 s83) - v82 + 1) ∧ (0 ≤ v119 - v120) ∧ (ARR (s0 40) x0 (v119 - v120) v82) ∧ (BGN (s0 40) x0 v82) ∧ (RUN (s0 40) x0 v82 (f_X2_lastOf v82 x0 s83)) ∧ ((f_X2_lastOf v82 x0 s83) = v82 ∨ ¬ s0 40 v82 = 4)) → (f_X2_lastOf v82 x0 s83) - v82 + 1 - v120 < (n123 : Int) → (∀ (w124 : Int) (w125 : Int) (s126 : gMem), (w_X2_arrange_30 x0 v82 (f_X2_lastOf v82 x0 s83) n123 v119 v120 s121) = (w124, w125, s126) → ((in32 w124) ∧ (in32 w125) ∧ (fr [43, 44] s0 s126) ∧ (gMR lgX s126) ∧ (ORx s126) ∧ (BEx s126) ∧ (0 ≤ v82 ∧ v82 ≤ (f_X2_lastOf v82 x0 s83) ∧ (f_X2_lastOf v82 x0 s83) ≤ 15) ∧ (0 ≤ w125 ∧ w125 ≤ (f_X2_lastOf v82 x0 s83) - v82 + 1) ∧ (0 ≤ w124 - w125) ∧ (ARR (s0 40) x0 (w124 - w125) v82) ∧ (BGN (s0 40) x0 v82) ∧ (RUN (s0 40) x0 v82 (f_X2_lastOf v82 x0 s83)) ∧ ((f_X2_lastOf v82 x0 s83) = v82 ∨ ¬ s0 40 v82 = 4) ∧ (w125 = (f_X2_lastOf v82 x0 s83) - v82 + 1)) → (fr [43, 44] s0 sZ) ∧ (gMR lgX sZ) ∧ (True) ∧ (ORx sZ) ∧ (BEx sZ)) → (fr [43, 44] s0 sZ) ∧ (gMR lgX sZ) ∧ (True) ∧ (ORx sZ) ∧ (BEx sZ) := by
            intro n123; induction n123 with
            | zero =>
              intro v119 v120 s121 hq hm hk
              exfalso
              obtain ⟨hq134, hq135, hf_s121, hm_s121, hORx_s121, hBEx_s121, hq136, hq137, hq138, hq139, hq140, hq141, hq142⟩ := hq
              omega
            | succ n123 ih =>
              intro v119 v120 s121 hq hm hk
              obtain ⟨hq143, hq144, hf_s121, hm_s121, hORx_s121, hBEx_s121, hq145, hq146, hq147, hq148, hq149, hq150, hq151⟩ := hq
              have hT := w_X2_arrange_30_s x0 v82 (f_X2_lastOf v82 x0 s83) n123 v119 v120 s121
              by_cases h127 : ((f_X2_lastOf v82 x0 s83) - v82) < v120
              · replace hT := hT.trans (if_pos h127)
                exact hk v119 v120 s121 hT ⟨(by omega), (by omega), hf_s121, hm_s121, hORx_s121, hBEx_s121, (by first | assumption | omega), (by first | assumption | omega), (by first | assumption | omega), (by first | assumption | exact ARR_0 _ _ | exact ARR_skip (by assumption) (by omega) (by omega) (BGN_not (by assumption) (by omega)) | exact ARR_cg (by assumption) (by omega) | exact ARR_add (by assumption) (by assumption) (by assumption) (by omega) (by omega) (by omega) (by omega) (by omega)), (by first | assumption | exact BGN_yes (by assumption) (by omega)), (by assumption), (by first | assumption | omega), (by first | assumption | omega)⟩
              · replace hT := hT.trans (if_neg h127)
                have kar := ARR_le (by assumption : ARR (s0 40) x0 (v119 - v120) v82) (by assumption)
                have hp129 := f_X2_upAfter_p v82 (f_X2_lastOf v82 x0 s83) v120 s121 (by omega) (by omega) (by omega) hm_s121 (WY_fr hpre2 (fun k hk => hf_s121 k (dj (by decide) k hk))) (by first | assumption | omega) (by first | assumption | omega)
                try simp only [hf_s121 40 (by decide)] at hp129
                obtain ⟨hp130, hp131⟩ := hp129
                obtain ⟨s132, hs132, hT⟩ := glx hT
                have hf_s132 : fr [43, 44] s0 s132 := hs132 ▸ hf_s121.set (by decide)
                have hm_s132 : gMR lgX s132 := hs132 ▸ hm_s121.set32 rfl (by omega)
                have hg_s132 : fr [43] s121 s132 := hs132 ▸ (fr.rf _ _).set (by decide)
                have hORx_s132 : ORx s132 := hs132 ▸ ORx_set hORx_s121 (by omega)
                have hBEx_s132 : BEx s132 := BEx_fr hBEx_s121 (fun k hk => hg_s132 k (dj (by decide) k hk))
                obtain ⟨s133, hs133, hT⟩ := glx hT
                have hf_s133 : fr [43, 44] s0 s133 := hs133 ▸ hf_s132.set (by decide)
                have hm_s133 : gMR lgX s133 := hs133 ▸ hm_s132.set32 rfl (by omega)
                have hg_s133 : fr [44] s132 s133 := hs133 ▸ (fr.rf _ _).set (by decide)
                have hORx_s133 : ORx s133 := ORx_fr hORx_s132 (fun k hk => hg_s133 k (dj (by decide) k hk))
                have hBEx_s133 : BEx s133 := hs133 ▸ BEx_set hBEx_s132 (by omega)
                exact ih (v119 + 1) (v120 + 1) s133 ⟨(by omega), (by omega), hf_s133, hm_s133, hORx_s133, hBEx_s133, (by first | assumption | omega), (by first | assumption | omega), (by first | assumption | omega), (by first | assumption | exact ARR_0 _ _ | exact ARR_skip (by assumption) (by omega) (by omega) (BGN_not (by assumption) (by omega)) | exact ARR_cg (by assumption) (by omega) | exact ARR_add (by assumption) (by assumption) (by assumption) (by omega) (by omega) (by omega) (by omega) (by omega)), (by first | assumption | exact BGN_yes (by assumption) (by omega)), (by assumption), (by first | assumption | omega)⟩ (by omega) (fun w124 w125 s126 hw hi => hk w124 w125 s126 (hT.trans hw) hi)
          refine L122 17 v81 0 s83 ⟨(by omega), (by omega), hf_s83, hm_s83, hORx_s83, hBEx_s83, (by first | assumption | omega), (by first | assumption | omega), (by first | assumption | omega), (by first | assumption | exact ARR_0 _ _ | exact ARR_skip (by assumption) (by omega) (by omega) (BGN_not (by assumption) (by omega)) | exact ARR_cg (by assumption) (by omega) | exact ARR_add (by assumption) (by assumption) (by assumption) (by omega) (by omega) (by omega) (by omega) (by omega)), (by first | assumption | exact BGN_yes (by assumption) (by omega)), (by assumption), (by first | assumption | omega)⟩ (by omega) (fun v152 v153 s154 hw hq => ?_)
          obtain ⟨hq155, hq156, hf_s154, hm_s154, hORx_s154, hBEx_s154, hq157, hq158, hq159, hq160, hq161, hq162, hq163, hq164⟩ := hq
          replace hT := gl3y hT hw
          exact j95 v152 s154 ⟨(by omega), hf_s154, hm_s154, hORx_s154, hBEx_s154, (by first | assumption | omega), (by first | assumption | omega), (by first | assumption | exact ARR_0 _ _ | exact ARR_skip (by assumption) (by omega) (by omega) (BGN_not (by assumption) (by omega)) | exact ARR_cg (by assumption) (by omega) | exact ARR_add (by assumption) (by assumption) (by assumption) (by omega) (by omega) (by omega) (by omega) (by omega))⟩ hT
      · replace hT := hT.trans (if_neg h89)
        exact hk v81 v82 s83 hT ⟨(by omega), (by omega), hf_s83, hm_s83, hORx_s83, hBEx_s83, (by first | assumption | omega), (by first | assumption | omega), (by first | assumption | exact ARR_0 _ _ | exact ARR_skip (by assumption) (by omega) (by omega) (BGN_not (by assumption) (by omega)) | exact ARR_cg (by assumption) (by omega) | exact ARR_add (by assumption) (by assumption) (by assumption) (by omega) (by omega) (by omega) (by omega) (by omega)), (by first | assumption | omega)⟩
  refine L84 17 0 0 s0 ⟨(by omega), (by omega), hf_s0, hm_s0, hORx_s0, hBEx_s0, (by first | assumption | omega), (by first | assumption | omega), (by first | assumption | exact ARR_0 _ _ | exact ARR_skip (by assumption) (by omega) (by omega) (BGN_not (by assumption) (by omega)) | exact ARR_cg (by assumption) (by omega) | exact ARR_add (by assumption) (by assumption) (by assumption) (by omega) (by omega) (by omega) (by omega) (by omega))⟩ (by omega) (fun v175 v176 s177 hw hq => ?_)
  obtain ⟨hq178, hq179, hf_s177, hm_s177, hORx_s177, hBEx_s177, hq180, hq181, hq182, hq183⟩ := hq
  replace hT := gl3y hT hw
  have L207 : ∀ (n208 : Nat) (v204 : Int) (v205 : Int) (s206 : gMem), ((in32 v204) ∧ (in32 v205) ∧ (fr [43, 44] s0 s206) ∧ (gMR lgX s206) ∧ (ORx s206) ∧ (BEx s206) ∧ (0 ≤ v205 ∧ v205 ≤ 16) ∧ (0 ≤ v204) ∧ (GE2 x0 v204 v205)) → 16 - v205 < (n208 : Int) → (∀ (w209 : Int) (w210 : Int) (s211 : gMem), (w_X2_arrange_79 x0 n208 v204 v205 s206) = (w209, w210, s211) → ((in32 w209) ∧ (in32 w210) ∧ (fr [43, 44] s0 s211) ∧ (gMR lgX s211) ∧ (ORx s211) ∧ (BEx s211) ∧ (0 ≤ w210 ∧ w210 ≤ 16) ∧ (0 ≤ w209) ∧ (GE2 x0 w209 w210)) → (fr [43, 44] s0 sZ) ∧ (gMR lgX sZ) ∧ (True) ∧ (ORx sZ) ∧ (BEx sZ)) → (fr [43, 44] s0 sZ) ∧ (gMR lgX sZ) ∧ (True) ∧ (ORx sZ) ∧ (BEx sZ) := by
    intro n208; induction n208 with
    | zero =>
      intro v204 v205 s206 hq hm hk
      exfalso
      obtain ⟨hq228, hq229, hf_s206, hm_s206, hORx_s206, hBEx_s206, hq230, hq231, hq232⟩ := hq
      omega
    | succ n208 ih =>
      intro v204 v205 s206 hq hm hk
      obtain ⟨hq233, hq234, hf_s206, hm_s206, hORx_s206, hBEx_s206, hq235, hq236, hq237⟩ := hq
      have hT := w_X2_arrange_79_s x0 n208 v204 v205 s206
      by_cases h212 : v205 < 16
      · replace hT := hT.trans (if_pos h212)
        have hp214 := f_X8_has_p x0 v205 (by omega) (by omega) 
        try simp only [hf_s206 40 (by decide)] at hp214
        obtain ⟨hp215, hp216⟩ := hp214
        obtain ⟨z225, hz225, hT⟩ := gl2x hT
        have j218 : ∀ (v219 : Int) (s220 : gMem), ((in32 v219) ∧ (fr [43, 44] s0 s220) ∧ (gMR lgX s220) ∧ (ORx s220) ∧ (BEx s220) ∧ (0 ≤ v205 ∧ v205 ≤ 15) ∧ (0 ≤ v219) ∧ (GE2 x0 v219 (v205 + 1))) → z225 = (v219, s220) → (fr [43, 44] s0 sZ) ∧ (gMR lgX sZ) ∧ (True) ∧ (ORx sZ) ∧ (BEx sZ) := by
          intro v219 s220 hq hz
          obtain ⟨hq221, hf_s220, hm_s220, hORx_s220, hBEx_s220, hq222, hq223, hq224⟩ := hq
          replace hT := gl2y hT hz
          exact ih v219 (v205 + 1) s220 ⟨(by omega), (by omega), hf_s220, hm_s220, hORx_s220, hBEx_s220, (by first | assumption | omega), (by first | assumption | omega), (by first | assumption | exact GE2_0 (by assumption) (by omega) | exact GE2_bit (by assumption) (by omega) (by omega) | exact GE2_no (by assumption) (by omega) (by omega))⟩ (by omega) (fun w209 w210 s211 hw hi => hk w209 w210 s211 (hT.trans hw) hi)
        replace hT := hz225
        by_cases h217 : (f_X8_has x0 v205) = 0
        · replace hT := hT.trans (if_pos h217)
          exact j218 v204 s206 ⟨(by omega), hf_s206, hm_s206, hORx_s206, hBEx_s206, (by first | assumption | omega), (by first | assumption | omega), (by first | assumption | exact GE2_0 (by assumption) (by omega) | exact GE2_bit (by assumption) (by omega) (by omega) | exact GE2_no (by assumption) (by omega) (by omega))⟩ hT
        · replace hT := hT.trans (if_neg h217)
          have kge := GE2_use (by assumption : GE2 x0 v204 v205) (by omega) (by omega) (by omega)
          obtain ⟨s226, hs226, hT⟩ := glx hT
          have hf_s226 : fr [43, 44] s0 s226 := hs226 ▸ hf_s206.set (by decide)
          have hm_s226 : gMR lgX s226 := hs226 ▸ hm_s206.set32 rfl (by omega)
          have hg_s226 : fr [43] s206 s226 := hs226 ▸ (fr.rf _ _).set (by decide)
          have hORx_s226 : ORx s226 := hs226 ▸ ORx_set hORx_s206 (by omega)
          have hBEx_s226 : BEx s226 := BEx_fr hBEx_s206 (fun k hk => hg_s226 k (dj (by decide) k hk))
          obtain ⟨s227, hs227, hT⟩ := glx hT
          have hf_s227 : fr [43, 44] s0 s227 := hs227 ▸ hf_s226.set (by decide)
          have hm_s227 : gMR lgX s227 := hs227 ▸ hm_s226.set32 rfl (by omega)
          have hg_s227 : fr [44] s226 s227 := hs227 ▸ (fr.rf _ _).set (by decide)
          have hORx_s227 : ORx s227 := ORx_fr hORx_s226 (fun k hk => hg_s227 k (dj (by decide) k hk))
          have hBEx_s227 : BEx s227 := hs227 ▸ BEx_set hBEx_s226 (by omega)
          exact j218 (v204 + 1) s227 ⟨(by omega), hf_s227, hm_s227, hORx_s227, hBEx_s227, (by first | assumption | omega), (by first | assumption | omega), (by first | assumption | exact GE2_0 (by assumption) (by omega) | exact GE2_bit (by assumption) (by omega) (by omega) | exact GE2_no (by assumption) (by omega) (by omega))⟩ hT
      · replace hT := hT.trans (if_neg h212)
        exact hk v204 v205 s206 hT ⟨(by omega), (by omega), hf_s206, hm_s206, hORx_s206, hBEx_s206, (by first | assumption | omega), (by first | assumption | omega), (by first | assumption | exact GE2_0 (by assumption) (by omega) | exact GE2_bit (by assumption) (by omega) (by omega) | exact GE2_no (by assumption) (by omega) (by omega))⟩
  refine L207 17 v175 0 s177 ⟨(by omega), (by omega), hf_s177, hm_s177, hORx_s177, hBEx_s177, (by first | assumption | omega), (by first | assumption | omega), (by first | assumption | exact GE2_0 (by assumption) (by omega) | exact GE2_bit (by assumption) (by omega) (by omega) | exact GE2_no (by assumption) (by omega) (by omega))⟩ (by omega) (fun v238 v239 s240 hw hq => ?_)
  obtain ⟨hq241, hq242, hf_s240, hm_s240, hORx_s240, hBEx_s240, hq243, hq244, hq245⟩ := hq
  replace hT := gl3y hT hw
  obtain ⟨rfl, rfl⟩ := Prod.mk.inj (hT.symm.trans hres)
  exact ⟨hf_s240, hm_s240, trivial, hORx_s240, hBEx_s240⟩
set_option maxRecDepth 100000 in
set_option maxHeartbeats 4000000 in
theorem c_X2_arrange (l : Launch) (D : va_G) (a : Nat → Nat) (cI cJ cS cT : ClassId) (s0 : gMem) (x0 : Int) (hx0 : in32 x0) (hpre0 : ORx s0) (hpre1 : BEx s0) (hpre2 : WY s0) : gC l yX2_arrange cX2_arrange 6 none 3 192 D vwCl (gT cI cJ cS cT) (wdX a cI cJ cS cT) lgX kV rgV [.ref (a 5), gI x0] s0 (f_X2_arrange x0 s0) := by
  refine gC_of (by decide +kernel) (hwdX a cI cJ cS cT) (Nat.le_of_ble_eq_true rfl) ?_
  intro A p e R s m args below meth c hR E
  subst hR
  have hT := f_X2_arrange_e x0 s0
  have hf_s0 : fr [43, 44] s0 s0 := fr.rf _ _
  refine k_lv0 (lv' := [(0, .ref (a 5)), (1, gI x0)]) rfl ?_
  refine k_mr (fun hm_s0 => ?_)
  have hORx_s0 := hpre0
  have hBEx_s0 := hpre1
  refine k_iconst (pc := 0) E dX2_arrange_0 ?_
  refine k_istoren (pc := 1) (lv' := [(2, gI 0), (0, .ref (a 5)), (1, gI x0)]) E dX2_arrange_1 rfl (by decide) rfl ?_
  refine k_iconst (pc := 2) E dX2_arrange_2 ?_
  refine k_istoren (pc := 3) (lv' := [(3, gI 0), (2, gI 0), (0, .ref (a 5)), (1, gI x0)]) E dX2_arrange_3 rfl (by decide) rfl ?_
  have L84 : ∀ (n85 : Nat) (v81 : Int) (v82 : Int) (s83 : gMem), ((in32 v81) ∧ (in32 v82) ∧ (fr [43, 44] s0 s83) ∧ (ORx s83) ∧ (BEx s83) ∧ (0 ≤ v82 ∧ v82 ≤ 16) ∧ (0 ≤ v81) ∧ (ARR (s0 40) x0 v81 v82)) → 16 - v82 < (n85 : Int) → (∀ (w86 : Int) (w87 : Int) (s88 : gMem), (w_X2_arrange_4 x0 n85 v81 v82 s83) = (w86, w87, s88) → ((in32 w86) ∧ (in32 w87) ∧ (fr [43, 44] s0 s88) ∧ (ORx s88) ∧ (BEx s88) ∧ (0 ≤ w87 ∧ w87 ≤ 16) ∧ (0 ≤ w86) ∧ (ARR (s0 40) x0 w86 w87) ∧ (w87 = 16)) → gK D vwCl (wdX a cI cJ cS cT) lgX A p l e { frames := 3, cells := 0, slots := 0, locals := 192 } s m args below meth c 6 (gQQ D vwCl (wdX a cI cJ cS cT) lgX A kV rgV below args s) (f_X2_arrange x0 s0) s88 77 [(0, .ref (a 5)), (1, gI x0), (2, gI w86)] []) → gK D vwCl (wdX a cI cJ cS cT) lgX A p l e { frames := 3, cells := 0, slots := 0, locals := 192 } s m args below meth c 6 (gQQ D vwCl (wdX a cI cJ cS cT) lgX A kV rgV below args s) (f_X2_arrange x0 s0) s83 4 [(0, .ref (a 5)), (1, gI x0), (2, gI v81), (3, gI v82)] [] := by
    intro n85; induction n85 with
    | zero =>
      intro v81 v82 s83 hq hm hk
      exfalso
      obtain ⟨hq165, hq166, hf_s83, hORx_s83, hBEx_s83, hq167, hq168, hq169⟩ := hq
      omega
    | succ n85 ih =>
      intro v81 v82 s83 hq hm hk
      obtain ⟨hq170, hq171, hf_s83, hORx_s83, hBEx_s83, hq172, hq173, hq174⟩ := hq
      have hT := w_X2_arrange_4_s x0 n85 v81 v82 s83
      refine k_iloadn (pc := 4) E 3 dX2_arrange_4 rfl rfl ?_
      refine k_bipush (pc := 5) E dX2_arrange_5 (by decide) ?_
      by_cases h89 : v82 < 16
      · replace hT := hT.trans (if_pos h89)
        refine k_icmp_ge_f (pc := 7) (tgt := 77) E (by omega) (by omega) dX2_arrange_7 (by decide) h89 ?_
        refine k_aloadn (pc := 10) E 0 dX2_arrange_10 rfl rfl ?_
        refine k_iloadn (pc := 11) E 3 dX2_arrange_11 rfl rfl ?_
        refine k_iloadn (pc := 12) E 1 dX2_arrange_12 rfl rfl ?_
        refine k_mr (fun hm_s83 => ?_)
        refine k_callV (pc := 13) (np := 2) (As := [gI v82, gI x0]) (st := []) (q0 := 5) E (c_X2_begins l D a cI cJ cS cT s83 v82 x0 (by omega) (by omega) (by first | assumption | omega)) wm_549 wm_7 wm_546 wm_548 wp_16 (by decide +kernel) rfl rfl ⟨by decide, by decide⟩ rfl (Nat.le_of_ble_eq_true rfl) dX2_arrange_13 (ro_kk (fun hr90 => ?_))
        have hp91 := f_X2_begins_p v82 x0 s83 (by omega) (by omega) hm_s83 (by first | assumption | omega)
        try simp only [hf_s83 40 (by decide)] at hp91
        obtain ⟨hp92, hp93⟩ := hp91
        refine k_st (st' := [gI (f_X2_begins v82 x0 s83)]) rfl ?_
        obtain ⟨j95c, hj95c, hT⟩ := gjx hT
        have j95 : ∀ (v96 : Int) (s97 : gMem), ((in32 v96) ∧ (fr [43, 44] s0 s97) ∧ (ORx s97) ∧ (BEx s97) ∧ (0 ≤ v82 ∧ v82 ≤ 15) ∧ (0 ≤ v96) ∧ (ARR (s0 40) x0 v96 (v82 + 1))) → (w_X2_arrange_4 x0 (n85 + 1) v81 v82 s83) = j95c v96 s97 → gK D vwCl (wdX a cI cJ cS cT) lgX A p l e { frames := 3, cells := 0, slots := 0, locals := 192 } s m args below meth c 6 (gQQ D vwCl (wdX a cI cJ cS cT) lgX A kV rgV below args s) (f_X2_arrange x0 s0) s97 71 [(0, .ref (a 5)), (1, gI x0), (2, gI v96), (3, gI v82)] [] := by
          intro v96 s97 hq hT
          obtain ⟨hq98, hf_s97, hORx_s97, hBEx_s97, hq99, hq100, hq101⟩ := hq
          rw [hj95c] at hT
          refine k_iinc (pc := 71) (lv' := [(3, gI (v82 + 1)), (0, .ref (a 5)), (1, gI x0), (2, gI v96)]) E 3 dX2_arrange_71 rfl (by decide) rfl ?_
          refine k_goto (pc := 74) (tgt := 4) E dX2_arrange_74 (by decide) ?_
          refine k_lv (lv' := [(0, .ref (a 5)), (1, gI x0), (2, gI v96), (3, gI (v82 + 1))]) [1, 2, 3, 0] rfl ?_
          exact ih v96 (v82 + 1) s97 ⟨(by omega), (by omega), hf_s97, hORx_s97, hBEx_s97, (by first | assumption | omega), (by first | assumption | omega), (by first | assumption | exact ARR_0 _ _ | exact ARR_skip (by assumption) (by omega) (by omega) (BGN_not (by assumption) (by omega)) | exact ARR_cg (by assumption) (by omega) | exact ARR_add (by assumption) (by assumption) (by assumption) (by omega) (by omega) (by omega) (by omega) (by omega))⟩ (by omega) (fun w86 w87 s88 hw hi => hk w86 w87 s88 (hT.trans hw) hi)
        by_cases h94 : (f_X2_begins v82 x0 s83) = 0
        · replace hT := hT.trans (if_pos h94)
          refine k_if_eq_t (pc := 16) (tgt := 71) E (by omega) dX2_arrange_16 (by decide) h94 ?_
          exact j95 v81 s83 ⟨(by omega), hf_s83, hORx_s83, hBEx_s83, (by first | assumption | omega), (by first | assumption | omega), (by first | assumption | exact ARR_0 _ _ | exact ARR_skip (by assumption) (by omega) (by omega) (BGN_not (by assumption) (by omega)) | exact ARR_cg (by assumption) (by omega) | exact ARR_add (by assumption) (by assumption) (by assumption) (by omega) (by omega) (by omega) (by omega) (by omega))⟩ hT
        · replace hT := hT.trans (if_neg h94)
          refine k_if_eq_f (pc := 16) (tgt := 71) E (by omega) dX2_arrange_16 (by decide) h94 ?_
          refine k_aloadn (pc := 19) E 0 dX2_arrange_19 rfl rfl ?_
          refine k_iloadn (pc := 20) E 3 dX2_arrange_20 rfl rfl ?_
          refine k_iloadn (pc := 21) E 1 dX2_arrange_21 rfl rfl ?_
          refine k_mr (fun hm_s83 => ?_)
          refine k_callV (pc := 22) (np := 2) (As := [gI v82, gI x0]) (st := []) (q0 := 5) E (c_X2_lastOf l D a cI cJ cS cT s83 v82 x0 (by omega) (by omega) (by first | assumption | omega)) wm_557 wm_7 wm_554 wm_556 wp_17 (by decide +kernel) rfl rfl ⟨by decide, by decide⟩ rfl (Nat.le_of_ble_eq_true rfl) dX2_arrange_22 (ro_kk (fun hr102 => ?_))
          have hp103 := f_X2_lastOf_p v82 x0 s83 (by omega) (by omega) hm_s83 (by first | assumption | omega)
          try simp only [hf_s83 40 (by decide)] at hp103
          obtain ⟨hp104, hp105, hp106, hp107⟩ := hp103
          refine k_st (st' := [gI (f_X2_lastOf v82 x0 s83)]) rfl ?_
          refine k_istore (pc := 25) (lv' := [(4, gI (f_X2_lastOf v82 x0 s83)), (0, .ref (a 5)), (1, gI x0), (2, gI v81), (3, gI v82)]) E dX2_arrange_25 (by decide) rfl ?_
          refine k_iconst (pc := 27) E dX2_arrange_27 ?_
          refine k_istore (pc := 28) (lv' := [(5, gI 0), (4, gI (f_X2_lastOf v82 x0 s83)), (0, .ref (a 5)), (1, gI x0), (2, gI v81), (3, gI v82)]) E dX2_arrange_28 (by decide) rfl ?_
          have L122 : ∀ (n123 : Nat) (v119 : Int) (v120 : Int) (s121 : gMem), ((in32 v119) ∧ (in32 v120) ∧ (fr [43, 44] s0 s121) ∧ (ORx s121) ∧ (BEx s121) ∧ (0 ≤ v82 ∧ v82 ≤ (f_X2_lastOf v82 x0 s83) ∧ (f_X2_lastOf v82 x0 s83) ≤ 15) ∧ (0 ≤ v120 ∧ v120 ≤ (f_X2_lastOf v82 x0 s83) - v82 + 1) ∧ (0 ≤ v119 - v120) ∧ (ARR (s0 40) x0 (v119 - v120) v82) ∧ (BGN (s0 40) x0 v82) ∧ (RUN (s0 40) x0 v82 (f_X2_lastOf v82 x0 s83)) ∧ ((f_X2_lastOf v82 x0 s83) = v82 ∨ ¬ s0 40 v82 = 4)) → (f_X2_lastOf v82 x0 s83) - v82 + 1 - v120 < (n123 : Int) → (∀ (w124 : Int) (w125 : Int) (s126 : gMem), (w_X2_arrange_30 x0 v82 (f_X2_lastOf v82 x0 s83) n123 v119 v120 s121) = (w124, w125, s126) → ((in32 w124) ∧ (in32 w125) ∧ (fr [43, 44] s0 s126) ∧ (ORx s126) ∧ (BEx s126) ∧ (0 ≤ v82 ∧ v82 ≤ (f_X2_lastOf v82 x0 s83) ∧ (f_X2_lastOf v82 x0 s83) ≤ 15) ∧ (0 ≤ w125 ∧ w125 ≤ (f_X2_lastOf v82 x0 s83) - v82 + 1) ∧ (0 ≤ w124 - w125) ∧ (ARR (s0 40) x0 (w124 - w125) v82) ∧ (BGN (s0 40) x0 v82) ∧ (RUN (s0 40) x0 v82 (f_X2_lastOf v82 x0 s83)) ∧ ((f_X2_lastOf v82 x0 s83) = v82 ∨ ¬ s0 40 v82 = 4) ∧ (w125 = (f_X2_lastOf v82 x0 s83) - v82 + 1)) → gK D vwCl (wdX a cI cJ cS cT) lgX A p l e { frames := 3, cells := 0, slots := 0, locals := 192 } s m args below meth c 6 (gQQ D vwCl (wdX a cI cJ cS cT) lgX A kV rgV below args s) (f_X2_arrange x0 s0) s126 71 [(0, .ref (a 5)), (1, gI x0), (2, gI w124), (3, gI v82)] []) → gK D vwCl (wdX a cI cJ cS cT) lgX A p l e { frames := 3, cells := 0, slots := 0, locals := 192 } s m args below meth c 6 (gQQ D vwCl (wdX a cI cJ cS cT) lgX A kV rgV below args s) (f_X2_arrange x0 s0) s121 30 [(0, .ref (a 5)), (1, gI x0), (2, gI v119), (3, gI v82), (4, gI (f_X2_lastOf v82 x0 s83)), (5, gI v120)] [] := by
            intro n123; induction n123 with
            | zero =>
              intro v119 v120 s121 hq hm hk
              exfalso
              obtain ⟨hq134, hq135, hf_s121, hORx_s121, hBEx_s121, hq136, hq137, hq138, hq139, hq140, hq141, hq142⟩ := hq
              omega
            | succ n123 ih =>
              intro v119 v120 s121 hq hm hk
              obtain ⟨hq143, hq144, hf_s121, hORx_s121, hBEx_s121, hq145, hq146, hq147, hq148, hq149, hq150, hq151⟩ := hq
              have hT := w_X2_arrange_30_s x0 v82 (f_X2_lastOf v82 x0 s83) n123 v119 v120 s121
              refine k_iload (pc := 30) E 5 dX2_arrange_30 rfl ?_
              refine k_iload (pc := 32) E 4 dX2_arrange_32 rfl ?_
              refine k_iloadn (pc := 34) E 3 dX2_arrange_34 rfl rfl ?_
              refine k_isub (pc := 35) E dX2_arrange_35 ?_
              by_cases h127 : ((f_X2_lastOf v82 x0 s83) - v82) < v120
              · replace hT := hT.trans (if_pos h127)
                refine k_icmp_gt_t (pc := 36) (tgt := 71) E (by omega) (by omega) dX2_arrange_36 (by decide) h127 ?_
                refine k_lv (lv' := [(0, .ref (a 5)), (1, gI x0), (2, gI v119), (3, gI v82)]) [0, 1, 2, 3] rfl ?_
                exact hk v119 v120 s121 hT ⟨(by omega), (by omega), hf_s121, hORx_s121, hBEx_s121, (by first | assumption | omega), (by first | assumption | omega), (by first | assumption | omega), (by first | assumption | exact ARR_0 _ _ | exact ARR_skip (by assumption) (by omega) (by omega) (BGN_not (by assumption) (by omega)) | exact ARR_cg (by assumption) (by omega) | exact ARR_add (by assumption) (by assumption) (by assumption) (by omega) (by omega) (by omega) (by omega) (by omega)), (by first | assumption | exact BGN_yes (by assumption) (by omega)), (by assumption), (by first | assumption | omega), (by first | assumption | omega)⟩
              · replace hT := hT.trans (if_neg h127)
                refine k_icmp_gt_f (pc := 36) (tgt := 71) E (by omega) (by omega) dX2_arrange_36 (by decide) h127 ?_
                have kar := ARR_le (by assumption : ARR (s0 40) x0 (v119 - v120) v82) (by assumption)
                refine k_aloadn (pc := 39) E 0 dX2_arrange_39 rfl rfl ?_
                refine k_getf (pc := 40) (q0 := 5) (f := 2) (v := .ref (a 43)) E inX2 rfl rfl (by decide) wm_176 rfl rfl dX2_arrange_40 ?_
                refine k_iloadn (pc := 43) E 2 dX2_arrange_43 rfl rfl ?_
                refine k_aloadn (pc := 44) E 0 dX2_arrange_44 rfl rfl ?_
                refine k_iloadn (pc := 45) E 3 dX2_arrange_45 rfl rfl ?_
                refine k_iload (pc := 46) E 4 dX2_arrange_46 rfl ?_
                refine k_iload (pc := 48) E 5 dX2_arrange_48 rfl ?_
                refine k_mr (fun hm_s121 => ?_)
                refine k_callV (pc := 50) (np := 3) (As := [gI v82, gI (f_X2_lastOf v82 x0 s83), gI v120]) (st := [gI v119, .ref (a 43)]) (q0 := 5) E (c_X2_upAfter l D a cI cJ cS cT s121 v82 (f_X2_lastOf v82 x0 s83) v120 (by omega) (by omega) (by omega) (WY_fr hpre2 (fun k hk => hf_s121 k (dj (by decide) k hk))) (by first | assumption | omega) (by first | assumption | omega)) wm_598 wm_7 wm_595 wm_597 wp_20 (by decide +kernel) rfl rfl ⟨by decide, by decide⟩ rfl (Nat.le_of_ble_eq_true rfl) dX2_arrange_50 (ro_kk (fun hr128 => ?_))
                have hp129 := f_X2_upAfter_p v82 (f_X2_lastOf v82 x0 s83) v120 s121 (by omega) (by omega) (by omega) hm_s121 (WY_fr hpre2 (fun k hk => hf_s121 k (dj (by decide) k hk))) (by first | assumption | omega) (by first | assumption | omega)
                try simp only [hf_s121 40 (by decide)] at hp129
                obtain ⟨hp130, hp131⟩ := hp129
                refine k_st (st' := [gI (f_X2_upAfter v82 (f_X2_lastOf v82 x0 s83) v120 s121), gI v119, .ref (a 43)]) rfl ?_
                refine k_iastore (pc := 53) (q0 := 43) (t0 := 0) (k := 43) (n := 16) E rfl rfl rfl rfl (by decide) (by omega) (by omega) (by omega) dX2_arrange_53 ?_
                obtain ⟨s132, hs132, hT⟩ := glx hT
                refine k_sg hs132.symm ?_
                have hf_s132 : fr [43, 44] s0 s132 := hs132 ▸ hf_s121.set (by decide)
                have hg_s132 : fr [43] s121 s132 := hs132 ▸ (fr.rf _ _).set (by decide)
                have hORx_s132 : ORx s132 := hs132 ▸ ORx_set hORx_s121 (by omega)
                have hBEx_s132 : BEx s132 := BEx_fr hBEx_s121 (fun k hk => hg_s132 k (dj (by decide) k hk))
                refine k_aloadn (pc := 54) E 0 dX2_arrange_54 rfl rfl ?_
                refine k_getf (pc := 55) (q0 := 5) (f := 3) (v := .ref (a 44)) E inX2 rfl rfl (by decide) wm_178 rfl rfl dX2_arrange_55 ?_
                refine k_iloadn (pc := 58) E 2 dX2_arrange_58 rfl rfl ?_
                refine k_iload (pc := 59) E 5 dX2_arrange_59 rfl ?_
                refine k_iastore (pc := 61) (q0 := 44) (t0 := 0) (k := 44) (n := 16) E rfl rfl rfl rfl (by decide) (by omega) (by omega) (by omega) dX2_arrange_61 ?_
                obtain ⟨s133, hs133, hT⟩ := glx hT
                refine k_sg hs133.symm ?_
                have hf_s133 : fr [43, 44] s0 s133 := hs133 ▸ hf_s132.set (by decide)
                have hg_s133 : fr [44] s132 s133 := hs133 ▸ (fr.rf _ _).set (by decide)
                have hORx_s133 : ORx s133 := ORx_fr hORx_s132 (fun k hk => hg_s133 k (dj (by decide) k hk))
                have hBEx_s133 : BEx s133 := hs133 ▸ BEx_set hBEx_s132 (by omega)
                refine k_iinc (pc := 62) (lv' := [(2, gI (v119 + 1)), (0, .ref (a 5)), (1, gI x0), (3, gI v82), (4, gI (f_X2_lastOf v82 x0 s83)), (5, gI v120)]) E 2 dX2_arrange_62 rfl (by decide) rfl ?_
                refine k_iinc (pc := 65) (lv' := [(5, gI (v120 + 1)), (2, gI (v119 + 1)), (0, .ref (a 5)), (1, gI x0), (3, gI v82), (4, gI (f_X2_lastOf v82 x0 s83))]) E 5 dX2_arrange_65 rfl (by decide) rfl ?_
                refine k_goto (pc := 68) (tgt := 30) E dX2_arrange_68 (by decide) ?_
                refine k_lv (lv' := [(0, .ref (a 5)), (1, gI x0), (2, gI (v119 + 1)), (3, gI v82), (4, gI (f_X2_lastOf v82 x0 s83)), (5, gI (v120 + 1))]) [2, 3, 1, 4, 5, 0] rfl ?_
                exact ih (v119 + 1) (v120 + 1) s133 ⟨(by omega), (by omega), hf_s133, hORx_s133, hBEx_s133, (by first | assumption | omega), (by first | assumption | omega), (by first | assumption | omega), (by first | assumption | exact ARR_0 _ _ | exact ARR_skip (by assumption) (by omega) (by omega) (BGN_not (by assumption) (by omega)) | exact ARR_cg (by assumption) (by omega) | exact ARR_add (by assumption) (by assumption) (by assumption) (by omega) (by omega) (by omega) (by omega) (by omega)), (by first | assumption | exact BGN_yes (by assumption) (by omega)), (by assumption), (by first | assumption | omega)⟩ (by omega) (fun w124 w125 s126 hw hi => hk w124 w125 s126 (hT.trans hw) hi)
          refine k_lv (lv' := [(0, .ref (a 5)), (1, gI x0), (2, gI v81), (3, gI v82), (4, gI (f_X2_lastOf v82 x0 s83)), (5, gI 0)]) [2, 3, 4, 5, 1, 0] rfl ?_
          refine L122 17 v81 0 s83 ⟨(by omega), (by omega), hf_s83, hORx_s83, hBEx_s83, (by first | assumption | omega), (by first | assumption | omega), (by first | assumption | omega), (by first | assumption | exact ARR_0 _ _ | exact ARR_skip (by assumption) (by omega) (by omega) (BGN_not (by assumption) (by omega)) | exact ARR_cg (by assumption) (by omega) | exact ARR_add (by assumption) (by assumption) (by assumption) (by omega) (by omega) (by omega) (by omega) (by omega)), (by first | assumption | exact BGN_yes (by assumption) (by omega)), (by assumption), (by first | assumption | omega)⟩ (by omega) (fun v152 v153 s154 hw hq => ?_)
          obtain ⟨hq155, hq156, hf_s154, hORx_s154, hBEx_s154, hq157, hq158, hq159, hq160, hq161, hq162, hq163, hq164⟩ := hq
          replace hT := gl3y hT hw
          exact j95 v152 s154 ⟨(by omega), hf_s154, hORx_s154, hBEx_s154, (by first | assumption | omega), (by first | assumption | omega), (by first | assumption | exact ARR_0 _ _ | exact ARR_skip (by assumption) (by omega) (by omega) (BGN_not (by assumption) (by omega)) | exact ARR_cg (by assumption) (by omega) | exact ARR_add (by assumption) (by assumption) (by assumption) (by omega) (by omega) (by omega) (by omega) (by omega))⟩ hT
      · replace hT := hT.trans (if_neg h89)
        refine k_icmp_ge_t (pc := 7) (tgt := 77) E (by omega) (by omega) dX2_arrange_7 (by decide) h89 ?_
        refine k_lv (lv' := [(0, .ref (a 5)), (1, gI x0), (2, gI v81)]) [0, 1, 2] rfl ?_
        exact hk v81 v82 s83 hT ⟨(by omega), (by omega), hf_s83, hORx_s83, hBEx_s83, (by first | assumption | omega), (by first | assumption | omega), (by first | assumption | exact ARR_0 _ _ | exact ARR_skip (by assumption) (by omega) (by omega) (BGN_not (by assumption) (by omega)) | exact ARR_cg (by assumption) (by omega) | exact ARR_add (by assumption) (by assumption) (by assumption) (by omega) (by omega) (by omega) (by omega) (by omega)), (by first | assumption | omega)⟩
  refine k_lv (lv' := [(0, .ref (a 5)), (1, gI x0), (2, gI 0), (3, gI 0)]) [2, 3, 1, 0] rfl ?_
  refine L84 17 0 0 s0 ⟨(by omega), (by omega), hf_s0, hORx_s0, hBEx_s0, (by first | assumption | omega), (by first | assumption | omega), (by first | assumption | exact ARR_0 _ _ | exact ARR_skip (by assumption) (by omega) (by omega) (BGN_not (by assumption) (by omega)) | exact ARR_cg (by assumption) (by omega) | exact ARR_add (by assumption) (by assumption) (by assumption) (by omega) (by omega) (by omega) (by omega) (by omega))⟩ (by omega) (fun v175 v176 s177 hw hq => ?_)
  obtain ⟨hq178, hq179, hf_s177, hORx_s177, hBEx_s177, hq180, hq181, hq182, hq183⟩ := hq
  replace hT := gl3y hT hw
  refine k_iconst (pc := 77) E dX2_arrange_77 ?_
  refine k_istoren (pc := 78) (lv' := [(3, gI 0), (0, .ref (a 5)), (1, gI x0), (2, gI v175)]) E dX2_arrange_78 rfl (by decide) rfl ?_
  have L207 : ∀ (n208 : Nat) (v204 : Int) (v205 : Int) (s206 : gMem), ((in32 v204) ∧ (in32 v205) ∧ (fr [43, 44] s0 s206) ∧ (ORx s206) ∧ (BEx s206) ∧ (0 ≤ v205 ∧ v205 ≤ 16) ∧ (0 ≤ v204) ∧ (GE2 x0 v204 v205)) → 16 - v205 < (n208 : Int) → (∀ (w209 : Int) (w210 : Int) (s211 : gMem), (w_X2_arrange_79 x0 n208 v204 v205 s206) = (w209, w210, s211) → ((in32 w209) ∧ (in32 w210) ∧ (fr [43, 44] s0 s211) ∧ (ORx s211) ∧ (BEx s211) ∧ (0 ≤ w210 ∧ w210 ≤ 16) ∧ (0 ≤ w209) ∧ (GE2 x0 w209 w210)) → gK D vwCl (wdX a cI cJ cS cT) lgX A p l e { frames := 3, cells := 0, slots := 0, locals := 192 } s m args below meth c 6 (gQQ D vwCl (wdX a cI cJ cS cT) lgX A kV rgV below args s) (f_X2_arrange x0 s0) s211 116 [] []) → gK D vwCl (wdX a cI cJ cS cT) lgX A p l e { frames := 3, cells := 0, slots := 0, locals := 192 } s m args below meth c 6 (gQQ D vwCl (wdX a cI cJ cS cT) lgX A kV rgV below args s) (f_X2_arrange x0 s0) s206 79 [(0, .ref (a 5)), (1, gI x0), (2, gI v204), (3, gI v205)] [] := by
    intro n208; induction n208 with
    | zero =>
      intro v204 v205 s206 hq hm hk
      exfalso
      obtain ⟨hq228, hq229, hf_s206, hORx_s206, hBEx_s206, hq230, hq231, hq232⟩ := hq
      omega
    | succ n208 ih =>
      intro v204 v205 s206 hq hm hk
      obtain ⟨hq233, hq234, hf_s206, hORx_s206, hBEx_s206, hq235, hq236, hq237⟩ := hq
      have hT := w_X2_arrange_79_s x0 n208 v204 v205 s206
      refine k_iloadn (pc := 79) E 3 dX2_arrange_79 rfl rfl ?_
      refine k_bipush (pc := 80) E dX2_arrange_80 (by decide) ?_
      by_cases h212 : v205 < 16
      · replace hT := hT.trans (if_pos h212)
        refine k_icmp_ge_f (pc := 82) (tgt := 116) E (by omega) (by omega) dX2_arrange_82 (by decide) h212 ?_
        refine k_iloadn (pc := 85) E 1 dX2_arrange_85 rfl rfl ?_
        refine k_iloadn (pc := 86) E 3 dX2_arrange_86 rfl rfl ?_
        refine k_mr (fun hm_s206 => ?_)
        refine k_callSN (pc := 87) (np := 2) (As := [gI x0, gI v205]) (st := []) E (c_X8_has l D a cI cJ cS cT s206 x0 v205 (by omega) (by omega)) wm_552 wm_1 (List.mem_of_getElem? (i := 0) rfl) wm_551 (by decide +kernel) ⟨by decide, by decide⟩ rfl (Nat.le_of_ble_eq_true rfl) dX2_arrange_87 (ro_kk (fun hr213 => ?_))
        have hp214 := f_X8_has_p x0 v205 (by omega) (by omega) 
        try simp only [hf_s206 40 (by decide)] at hp214
        obtain ⟨hp215, hp216⟩ := hp214
        refine k_st (st' := [gI (f_X8_has x0 v205)]) rfl ?_
        obtain ⟨z225, hz225, hT⟩ := gl2x hT
        have j218 : ∀ (v219 : Int) (s220 : gMem), ((in32 v219) ∧ (fr [43, 44] s0 s220) ∧ (ORx s220) ∧ (BEx s220) ∧ (0 ≤ v205 ∧ v205 ≤ 15) ∧ (0 ≤ v219) ∧ (GE2 x0 v219 (v205 + 1))) → z225 = (v219, s220) → gK D vwCl (wdX a cI cJ cS cT) lgX A p l e { frames := 3, cells := 0, slots := 0, locals := 192 } s m args below meth c 6 (gQQ D vwCl (wdX a cI cJ cS cT) lgX A kV rgV below args s) (f_X2_arrange x0 s0) s220 110 [(0, .ref (a 5)), (1, gI x0), (2, gI v219), (3, gI v205)] [] := by
          intro v219 s220 hq hz
          obtain ⟨hq221, hf_s220, hORx_s220, hBEx_s220, hq222, hq223, hq224⟩ := hq
          replace hT := gl2y hT hz
          refine k_iinc (pc := 110) (lv' := [(3, gI (v205 + 1)), (0, .ref (a 5)), (1, gI x0), (2, gI v219)]) E 3 dX2_arrange_110 rfl (by decide) rfl ?_
          refine k_goto (pc := 113) (tgt := 79) E dX2_arrange_113 (by decide) ?_
          refine k_lv (lv' := [(0, .ref (a 5)), (1, gI x0), (2, gI v219), (3, gI (v205 + 1))]) [1, 2, 3, 0] rfl ?_
          exact ih v219 (v205 + 1) s220 ⟨(by omega), (by omega), hf_s220, hORx_s220, hBEx_s220, (by first | assumption | omega), (by first | assumption | omega), (by first | assumption | exact GE2_0 (by assumption) (by omega) | exact GE2_bit (by assumption) (by omega) (by omega) | exact GE2_no (by assumption) (by omega) (by omega))⟩ (by omega) (fun w209 w210 s211 hw hi => hk w209 w210 s211 (hT.trans hw) hi)
        replace hT := hz225
        by_cases h217 : (f_X8_has x0 v205) = 0
        · replace hT := hT.trans (if_pos h217)
          refine k_if_eq_t (pc := 90) (tgt := 110) E (by omega) dX2_arrange_90 (by decide) h217 ?_
          exact j218 v204 s206 ⟨(by omega), hf_s206, hORx_s206, hBEx_s206, (by first | assumption | omega), (by first | assumption | omega), (by first | assumption | exact GE2_0 (by assumption) (by omega) | exact GE2_bit (by assumption) (by omega) (by omega) | exact GE2_no (by assumption) (by omega) (by omega))⟩ hT
        · replace hT := hT.trans (if_neg h217)
          refine k_if_eq_f (pc := 90) (tgt := 110) E (by omega) dX2_arrange_90 (by decide) h217 ?_
          have kge := GE2_use (by assumption : GE2 x0 v204 v205) (by omega) (by omega) (by omega)
          refine k_aloadn (pc := 93) E 0 dX2_arrange_93 rfl rfl ?_
          refine k_getf (pc := 94) (q0 := 5) (f := 2) (v := .ref (a 43)) E inX2 rfl rfl (by decide) wm_176 rfl rfl dX2_arrange_94 ?_
          refine k_iloadn (pc := 97) E 2 dX2_arrange_97 rfl rfl ?_
          refine k_iloadn (pc := 98) E 3 dX2_arrange_98 rfl rfl ?_
          refine k_iastore (pc := 99) (q0 := 43) (t0 := 0) (k := 43) (n := 16) E rfl rfl rfl rfl (by decide) (by omega) (by omega) (by omega) dX2_arrange_99 ?_
          obtain ⟨s226, hs226, hT⟩ := glx hT
          refine k_sg hs226.symm ?_
          have hf_s226 : fr [43, 44] s0 s226 := hs226 ▸ hf_s206.set (by decide)
          have hg_s226 : fr [43] s206 s226 := hs226 ▸ (fr.rf _ _).set (by decide)
          have hORx_s226 : ORx s226 := hs226 ▸ ORx_set hORx_s206 (by omega)
          have hBEx_s226 : BEx s226 := BEx_fr hBEx_s206 (fun k hk => hg_s226 k (dj (by decide) k hk))
          refine k_aloadn (pc := 100) E 0 dX2_arrange_100 rfl rfl ?_
          refine k_getf (pc := 101) (q0 := 5) (f := 3) (v := .ref (a 44)) E inX2 rfl rfl (by decide) wm_178 rfl rfl dX2_arrange_101 ?_
          refine k_iloadn (pc := 104) E 2 dX2_arrange_104 rfl rfl ?_
          refine k_iconst (pc := 105) E dX2_arrange_105 ?_
          refine k_iastore (pc := 106) (q0 := 44) (t0 := 0) (k := 44) (n := 16) E rfl rfl rfl rfl (by decide) (by omega) (by omega) (by omega) dX2_arrange_106 ?_
          obtain ⟨s227, hs227, hT⟩ := glx hT
          refine k_sg hs227.symm ?_
          have hf_s227 : fr [43, 44] s0 s227 := hs227 ▸ hf_s226.set (by decide)
          have hg_s227 : fr [44] s226 s227 := hs227 ▸ (fr.rf _ _).set (by decide)
          have hORx_s227 : ORx s227 := ORx_fr hORx_s226 (fun k hk => hg_s227 k (dj (by decide) k hk))
          have hBEx_s227 : BEx s227 := hs227 ▸ BEx_set hBEx_s226 (by omega)
          refine k_iinc (pc := 107) (lv' := [(2, gI (v204 + 1)), (0, .ref (a 5)), (1, gI x0), (3, gI v205)]) E 2 dX2_arrange_107 rfl (by decide) rfl ?_
          refine k_lv (lv' := [(0, .ref (a 5)), (1, gI x0), (2, gI (v204 + 1)), (3, gI v205)]) [1, 2, 0, 3] rfl ?_
          exact j218 (v204 + 1) s227 ⟨(by omega), hf_s227, hORx_s227, hBEx_s227, (by first | assumption | omega), (by first | assumption | omega), (by first | assumption | exact GE2_0 (by assumption) (by omega) | exact GE2_bit (by assumption) (by omega) (by omega) | exact GE2_no (by assumption) (by omega) (by omega))⟩ hT
      · replace hT := hT.trans (if_neg h212)
        refine k_icmp_ge_t (pc := 82) (tgt := 116) E (by omega) (by omega) dX2_arrange_82 (by decide) h212 ?_
        refine k_lv (lv' := []) [] rfl ?_
        exact hk v204 v205 s206 hT ⟨(by omega), (by omega), hf_s206, hORx_s206, hBEx_s206, (by first | assumption | omega), (by first | assumption | omega), (by first | assumption | exact GE2_0 (by assumption) (by omega) | exact GE2_bit (by assumption) (by omega) (by omega) | exact GE2_no (by assumption) (by omega) (by omega))⟩
  refine k_lv (lv' := [(0, .ref (a 5)), (1, gI x0), (2, gI v175), (3, gI 0)]) [1, 2, 3, 0] rfl ?_
  refine L207 17 v175 0 s177 ⟨(by omega), (by omega), hf_s177, hORx_s177, hBEx_s177, (by first | assumption | omega), (by first | assumption | omega), (by first | assumption | exact GE2_0 (by assumption) (by omega) | exact GE2_bit (by assumption) (by omega) (by omega) | exact GE2_no (by assumption) (by omega) (by omega))⟩ (by omega) (fun v238 v239 s240 hw hq => ?_)
  obtain ⟨hq241, hq242, hf_s240, hORx_s240, hBEx_s240, hq243, hq244, hq245⟩ := hq
  replace hT := gl3y hT hw
  exact k_rho hT (k_vret (pc := 116) E dX2_arrange_116)

def w_X2_atOnce_12  : Nat → Int → Int → gMem → Int × Int × gMem
  | 0, v6, v7, s8 => (v6, v7, s8)
  | n9 + 1, v6, v7, s8 => (if v7 < 16 then gb (f_X4_falls (s8 43 v7) (s8 44 v7) s8) (fun r16 s17 => gl ((v6 * (100 - r16)) / 100) (fun v24 => (w_X2_atOnce_12 n9 v24 (v7 + 1) s17))) else (v6, v7, s8))
theorem w_X2_atOnce_12_s  (n9 : Nat) (v6 : Int) (v7 : Int) (s8 : gMem) : w_X2_atOnce_12  (n9 + 1) v6 v7 s8 = (if v7 < 16 then gb (f_X4_falls (s8 43 v7) (s8 44 v7) s8) (fun r16 s17 => gl ((v6 * (100 - r16)) / 100) (fun v24 => (w_X2_atOnce_12 n9 v24 (v7 + 1) s17))) else (v6, v7, s8)) := rfl
def f_X2_atOnce (x0 : Int) (s0 : gMem) : gRes := gb (f_X2_arrange x0 s0) (fun r2 s3 => (gl3 (w_X2_atOnce_12 17 1000000000 0 s3) (fun v56 v57 s58 => (v56, s58))))
theorem f_X2_atOnce_e (x0 : Int) (s0 : gMem) : f_X2_atOnce x0 s0 = gb (f_X2_arrange x0 s0) (fun r2 s3 => (gl3 (w_X2_atOnce_12 17 1000000000 0 s3) (fun v56 v57 s58 => (v56, s58)))) := rfl
set_option maxRecDepth 100000 in
set_option maxHeartbeats 4000000 in
theorem f_X2_atOnce_p (x0 : Int) (s0 : gMem) (hx0 : in32 x0) (hm_s0 : gMR lgX s0) (hpre0 : CD s0) (hpre1 : BG s0) (hpre2 : LA s0) (hpre3 : MOx s0) (hpre4 : ORx s0) (hpre5 : BEx s0) (hpre6 : WY s0) (hpre7 : KF s0) (rZ : Int) (sZ : gMem) (hres : f_X2_atOnce x0 s0 = (rZ, sZ)) : (fr [32, 36, 37, 43, 44] s0 sZ) ∧ (gMR lgX sZ) ∧ (in64 rZ) ∧ (ORx sZ) ∧ (BEx sZ) ∧ (KF sZ) ∧ (0 ≤ rZ ∧ rZ ≤ 1000000000) := by
  have hT := f_X2_atOnce_e x0 s0
  have hf_s0 : fr [32, 36, 37, 43, 44] s0 s0 := fr.rf _ _
  have hORx_s0 := hpre4
  have hBEx_s0 := hpre5
  have hKF_s0 := hpre7
  obtain ⟨r2, s3, hs3⟩ : ∃ rr ss, (f_X2_arrange x0 s0) = (rr, ss) := ⟨_, _, rfl⟩
  replace hT := gby hT hs3
  have hp4 := f_X2_arrange_p x0 s0 (by omega) hm_s0 hORx_s0 hBEx_s0 hpre6 r2 s3 hs3
  obtain ⟨hfc_s3, hm_s3, hp5, hORx_s3, hBEx_s3⟩ := hp4
  have hf_s3 : fr [32, 36, 37, 43, 44] s0 s3 := hf_s0.call (by decide) hfc_s3
  have hKF_s3 : KF s3 := KF_fr hKF_s0 (fun k hk => hfc_s3 k (dj (by decide) k hk))
  have L28 : ∀ (n29 : Nat) (v25 : Int) (v26 : Int) (s27 : gMem), ((in64 v25) ∧ (in32 v26) ∧ (fr [32, 36, 37, 43, 44] s0 s27) ∧ (gMR lgX s27) ∧ (ORx s27) ∧ (BEx s27) ∧ (KF s27) ∧ (0 ≤ v26 ∧ v26 ≤ 16) ∧ (0 ≤ v25 ∧ v25 ≤ 1000000000)) → 16 - v26 < (n29 : Int) → (∀ (w30 : Int) (w31 : Int) (s32 : gMem), (w_X2_atOnce_12 n29 v25 v26 s27) = (w30, w31, s32) → ((in64 w30) ∧ (in32 w31) ∧ (fr [32, 36, 37, 43, 44] s0 s32) ∧ (gMR lgX s32) ∧ (ORx s32) ∧ (BEx s32) ∧ (KF s32) ∧ (0 ≤ w31 ∧ w31 ≤ 16) ∧ (0 ≤ w30 ∧ w30 ≤ 1000000000)) → (fr [32, 36, 37, 43, 44] s0 sZ) ∧ (gMR lgX sZ) ∧ (in64 rZ) ∧ (ORx sZ) ∧ (BEx sZ) ∧ (KF sZ) ∧ (0 ≤ rZ ∧ rZ ≤ 1000000000)) → (fr [32, 36, 37, 43, 44] s0 sZ) ∧ (gMR lgX sZ) ∧ (in64 rZ) ∧ (ORx sZ) ∧ (BEx sZ) ∧ (KF sZ) ∧ (0 ≤ rZ ∧ rZ ≤ 1000000000) := by
    intro n29; induction n29 with
    | zero =>
      intro v25 v26 s27 hq hm hk
      exfalso
      obtain ⟨hq48, hq49, hf_s27, hm_s27, hORx_s27, hBEx_s27, hKF_s27, hq50, hq51⟩ := hq
      omega
    | succ n29 ih =>
      intro v25 v26 s27 hq hm hk
      obtain ⟨hq52, hq53, hf_s27, hm_s27, hORx_s27, hBEx_s27, hKF_s27, hq54, hq55⟩ := hq
      have hT := w_X2_atOnce_12_s  n29 v25 v26 s27
      by_cases h33 : v26 < 16
      · replace hT := hT.trans (if_pos h33)
        have hr34 := (hm_s27 43 v26).1 rfl
        have hi35 := hORx_s27 v26
        have hr36 := (hm_s27 44 v26).1 rfl
        have hi37 := hBEx_s27 v26
        obtain ⟨r39, s40, hs40⟩ : ∃ rr ss, (f_X4_falls (s27 43 v26) (s27 44 v26) s27) = (rr, ss) := ⟨_, _, rfl⟩
        replace hT := gby hT hs40
        have hp41 := f_X4_falls_p (s27 43 v26) (s27 44 v26) s27 (by omega) (by omega) hm_s27 (CD_fr hpre0 (fun k hk => hf_s27 k (dj (by decide) k hk))) (BG_fr hpre1 (fun k hk => hf_s27 k (dj (by decide) k hk))) (LA_fr hpre2 (fun k hk => hf_s27 k (dj (by decide) k hk))) (MOx_fr hpre3 (fun k hk => hf_s27 k (dj (by decide) k hk))) hKF_s27 (by first | assumption | omega) (by first | assumption | omega) r39 s40 hs40
        obtain ⟨hfc_s40, hm_s40, hp42, hKF_s40, hp43⟩ := hp41
        have hf_s40 : fr [32, 36, 37, 43, 44] s0 s40 := hf_s27.call (by decide) hfc_s40
        have hORx_s40 : ORx s40 := ORx_fr hORx_s27 (fun k hk => hfc_s40 k (dj (by decide) k hk))
        have hBEx_s40 : BEx s40 := BEx_fr hBEx_s27 (fun k hk => hfc_s40 k (dj (by decide) k hk))
        have kmu := mul_rg (a := 1000000000) (b := 100) (x := v25) (y := (100 - r39)) (by omega) (by omega) (by omega) (by omega)
        have hd44 : (0 : Int) ≤ (v25 * (100 - r39)) := (by omega)
        have hd45 : (0 : Int) < 100 := (by omega)
        have hb46 := dv_rg hd44 hd45
        obtain ⟨v47, hv47, hT⟩ := glx hT
        exact ih v47 (v26 + 1) s40 ⟨(by omega), (by omega), hf_s40, hm_s40, hORx_s40, hBEx_s40, hKF_s40, (by first | assumption | omega), (by first | assumption | omega)⟩ (by omega) (fun w30 w31 s32 hw hi => hk w30 w31 s32 (hT.trans hw) hi)
      · replace hT := hT.trans (if_neg h33)
        exact hk v25 v26 s27 hT ⟨(by omega), (by omega), hf_s27, hm_s27, hORx_s27, hBEx_s27, hKF_s27, (by first | assumption | omega), (by first | assumption | omega)⟩
  refine L28 17 1000000000 0 s3 ⟨(by omega), (by omega), hf_s3, hm_s3, hORx_s3, hBEx_s3, hKF_s3, (by first | assumption | omega), (by first | assumption | omega)⟩ (by omega) (fun v56 v57 s58 hw hq => ?_)
  obtain ⟨hq59, hq60, hf_s58, hm_s58, hORx_s58, hBEx_s58, hKF_s58, hq61, hq62⟩ := hq
  replace hT := gl3y hT hw
  obtain ⟨rfl, rfl⟩ := Prod.mk.inj (hT.symm.trans hres)
  exact ⟨hf_s58, hm_s58, (by omega), hORx_s58, hBEx_s58, hKF_s58, (by first | assumption | omega)⟩
set_option maxRecDepth 100000 in
set_option maxHeartbeats 4000000 in
theorem c_X2_atOnce (l : Launch) (D : va_G) (a : Nat → Nat) (cI cJ cS cT : ClassId) (s0 : gMem) (x0 : Int) (hx0 : in32 x0) (hpre0 : CD s0) (hpre1 : BG s0) (hpre2 : LA s0) (hpre3 : MOx s0) (hpre4 : ORx s0) (hpre5 : BEx s0) (hpre6 : WY s0) (hpre7 : KF s0) : gC l yX2_atOnce cX2_atOnce 5 (some .long) 4 256 D vwCl (gT cI cJ cS cT) (wdX a cI cJ cS cT) lgX kJ in64 [.ref (a 5), gI x0] s0 (f_X2_atOnce x0 s0) := by
  refine gC_of (by decide +kernel) (hwdX a cI cJ cS cT) (Nat.le_of_ble_eq_true rfl) ?_
  intro A p e R s m args below meth c hR E
  subst hR
  have hT := f_X2_atOnce_e x0 s0
  have hf_s0 : fr [32, 36, 37, 43, 44] s0 s0 := fr.rf _ _
  refine k_lv0 (lv' := [(0, .ref (a 5)), (1, gI x0)]) rfl ?_
  refine k_mr (fun hm_s0 => ?_)
  have hORx_s0 := hpre4
  have hBEx_s0 := hpre5
  have hKF_s0 := hpre7
  refine k_aloadn (pc := 0) E 0 dX2_atOnce_0 rfl rfl ?_
  refine k_iloadn (pc := 1) E 1 dX2_atOnce_1 rfl rfl ?_
  refine k_mr (fun hm_s0 => ?_)
  refine k_callV (pc := 2) (np := 1) (As := [gI x0]) (st := []) (q0 := 5) E (c_X2_arrange l D a cI cJ cS cT s0 x0 (by omega) hORx_s0 hBEx_s0 hpre6) wm_663 wm_7 wm_660 wm_661 wm_662 (by decide +kernel) rfl rfl ⟨by decide, by decide⟩ rfl (Nat.le_of_ble_eq_true rfl) dX2_atOnce_2 (fun r2 s3 hs3 hr1 => ?_)
  replace hT := gby hT hs3
  have hp4 := f_X2_arrange_p x0 s0 (by omega) hm_s0 hORx_s0 hBEx_s0 hpre6 r2 s3 hs3
  obtain ⟨hfc_s3, hm_s3, hp5, hORx_s3, hBEx_s3⟩ := hp4
  have hf_s3 : fr [32, 36, 37, 43, 44] s0 s3 := hf_s0.call (by decide) hfc_s3
  have hKF_s3 : KF s3 := KF_fr hKF_s0 (fun k hk => hfc_s3 k (dj (by decide) k hk))
  refine k_st (st' := []) rfl ?_
  refine k_ldc2 (pc := 5) (n := 1000000000) E dX2_atOnce_5 wm_664 (by decide) ?_
  refine k_lstoren (pc := 8) (lv' := [(2, gL 1000000000), (0, .ref (a 5)), (1, gI x0)]) E dX2_atOnce_8 rfl (by decide) rfl ?_
  refine k_iconst (pc := 9) E dX2_atOnce_9 ?_
  refine k_istore (pc := 10) (lv' := [(4, gI 0), (2, gL 1000000000), (0, .ref (a 5)), (1, gI x0)]) E dX2_atOnce_10 (by decide) rfl ?_
  have L28 : ∀ (n29 : Nat) (v25 : Int) (v26 : Int) (s27 : gMem), ((in64 v25) ∧ (in32 v26) ∧ (fr [32, 36, 37, 43, 44] s0 s27) ∧ (ORx s27) ∧ (BEx s27) ∧ (KF s27) ∧ (0 ≤ v26 ∧ v26 ≤ 16) ∧ (0 ≤ v25 ∧ v25 ≤ 1000000000)) → 16 - v26 < (n29 : Int) → (∀ (w30 : Int) (w31 : Int) (s32 : gMem), (w_X2_atOnce_12 n29 v25 v26 s27) = (w30, w31, s32) → ((in64 w30) ∧ (in32 w31) ∧ (fr [32, 36, 37, 43, 44] s0 s32) ∧ (ORx s32) ∧ (BEx s32) ∧ (KF s32) ∧ (0 ≤ w31 ∧ w31 ≤ 16) ∧ (0 ≤ w30 ∧ w30 ≤ 1000000000)) → gK D vwCl (wdX a cI cJ cS cT) lgX A p l e { frames := 4, cells := 0, slots := 0, locals := 256 } s m args below meth c 5 (gQQ D vwCl (wdX a cI cJ cS cT) lgX A kJ in64 below args s) (f_X2_atOnce x0 s0) s32 57 [(2, gL w30)] []) → gK D vwCl (wdX a cI cJ cS cT) lgX A p l e { frames := 4, cells := 0, slots := 0, locals := 256 } s m args below meth c 5 (gQQ D vwCl (wdX a cI cJ cS cT) lgX A kJ in64 below args s) (f_X2_atOnce x0 s0) s27 12 [(0, .ref (a 5)), (2, gL v25), (4, gI v26)] [] := by
    intro n29; induction n29 with
    | zero =>
      intro v25 v26 s27 hq hm hk
      exfalso
      obtain ⟨hq48, hq49, hf_s27, hORx_s27, hBEx_s27, hKF_s27, hq50, hq51⟩ := hq
      omega
    | succ n29 ih =>
      intro v25 v26 s27 hq hm hk
      obtain ⟨hq52, hq53, hf_s27, hORx_s27, hBEx_s27, hKF_s27, hq54, hq55⟩ := hq
      have hT := w_X2_atOnce_12_s  n29 v25 v26 s27
      refine k_iload (pc := 12) E 2 dX2_atOnce_12 rfl ?_
      refine k_bipush (pc := 14) E dX2_atOnce_14 (by decide) ?_
      by_cases h33 : v26 < 16
      · replace hT := hT.trans (if_pos h33)
        refine k_icmp_ge_f (pc := 16) (tgt := 57) E (by omega) (by omega) dX2_atOnce_16 (by decide) h33 ?_
        refine k_lloadn (pc := 19) E 1 dX2_atOnce_19 rfl rfl ?_
        refine k_bipush (pc := 20) E dX2_atOnce_20 (by decide) ?_
        refine k_aloadn (pc := 22) E 0 dX2_atOnce_22 rfl rfl ?_
        refine k_getf (pc := 23) (q0 := 5) (f := 0) (v := .ref (a 3)) E inX2 rfl rfl (by decide) wm_174 rfl rfl dX2_atOnce_23 ?_
        refine k_aloadn (pc := 26) E 0 dX2_atOnce_26 rfl rfl ?_
        refine k_getf (pc := 27) (q0 := 5) (f := 2) (v := .ref (a 43)) E inX2 rfl rfl (by decide) wm_176 rfl rfl dX2_atOnce_27 ?_
        refine k_iload (pc := 30) E 2 dX2_atOnce_30 rfl ?_
        refine k_iaload (pc := 32) (q0 := 43) (t0 := 0) (k := 43) (n := 16) E rfl rfl rfl (by decide) (by omega) (by omega) dX2_atOnce_32 (fun hr34 => ?_)
        have hi35 := hORx_s27 v26
        refine k_aloadn (pc := 33) E 0 dX2_atOnce_33 rfl rfl ?_
        refine k_getf (pc := 34) (q0 := 5) (f := 3) (v := .ref (a 44)) E inX2 rfl rfl (by decide) wm_178 rfl rfl dX2_atOnce_34 ?_
        refine k_iload (pc := 37) E 2 dX2_atOnce_37 rfl ?_
        refine k_iaload (pc := 39) (q0 := 44) (t0 := 0) (k := 44) (n := 16) E rfl rfl rfl (by decide) (by omega) (by omega) dX2_atOnce_39 (fun hr36 => ?_)
        have hi37 := hBEx_s27 v26
        refine k_mr (fun hm_s27 => ?_)
        refine k_callV (pc := 40) (np := 2) (As := [gI (s27 43 v26), gI (s27 44 v26)]) (st := [gI 100, gL v25]) (q0 := 3) E (c_X4_falls l D a cI cJ cS cT s27 (s27 43 v26) (s27 44 v26) (by omega) (by omega) (CD_fr hpre0 (fun k hk => hf_s27 k (dj (by decide) k hk))) (BG_fr hpre1 (fun k hk => hf_s27 k (dj (by decide) k hk))) (LA_fr hpre2 (fun k hk => hf_s27 k (dj (by decide) k hk))) (MOx_fr hpre3 (fun k hk => hf_s27 k (dj (by decide) k hk))) hKF_s27 (by first | assumption | omega) (by first | assumption | omega)) wm_513 wm_4 wm_579 wm_511 wm_512 (by decide +kernel) rfl rfl ⟨by decide, by decide⟩ rfl (Nat.le_of_ble_eq_true rfl) dX2_atOnce_40 (fun r39 s40 hs40 hr38 => ?_)
        replace hT := gby hT hs40
        have hp41 := f_X4_falls_p (s27 43 v26) (s27 44 v26) s27 (by omega) (by omega) hm_s27 (CD_fr hpre0 (fun k hk => hf_s27 k (dj (by decide) k hk))) (BG_fr hpre1 (fun k hk => hf_s27 k (dj (by decide) k hk))) (LA_fr hpre2 (fun k hk => hf_s27 k (dj (by decide) k hk))) (MOx_fr hpre3 (fun k hk => hf_s27 k (dj (by decide) k hk))) hKF_s27 (by first | assumption | omega) (by first | assumption | omega) r39 s40 hs40
        obtain ⟨hfc_s40, hm_s40, hp42, hKF_s40, hp43⟩ := hp41
        have hf_s40 : fr [32, 36, 37, 43, 44] s0 s40 := hf_s27.call (by decide) hfc_s40
        have hORx_s40 : ORx s40 := ORx_fr hORx_s27 (fun k hk => hfc_s40 k (dj (by decide) k hk))
        have hBEx_s40 : BEx s40 := BEx_fr hBEx_s27 (fun k hk => hfc_s40 k (dj (by decide) k hk))
        refine k_st (st' := [gI r39, gI 100, gL v25]) rfl ?_
        refine k_isub (pc := 43) E dX2_atOnce_43 ?_
        have kmu := mul_rg (a := 1000000000) (b := 100) (x := v25) (y := (100 - r39)) (by omega) (by omega) (by omega) (by omega)
        refine k_i2l (pc := 44) E dX2_atOnce_44 (by omega) ?_
        refine k_lmul (pc := 45) E dX2_atOnce_45 ?_
        refine k_ldc2 (pc := 46) (n := 100) E dX2_atOnce_46 wm_583 (by decide) ?_
        have hd44 : (0 : Int) ≤ (v25 * (100 - r39)) := (by omega)
        have hd45 : (0 : Int) < 100 := (by omega)
        refine k_ldivN (pc := 49) E (by omega) (by omega) hd44 hd45 dX2_atOnce_49 ?_
        have hb46 := dv_rg hd44 hd45
        obtain ⟨v47, hv47, hT⟩ := glx hT
        refine k_st (st' := [gL v47]) (by rw [hv47]) ?_
        refine k_lstoren (pc := 50) (lv' := [(2, gL v47), (0, .ref (a 5)), (4, gI v26)]) E dX2_atOnce_50 rfl (by decide) rfl ?_
        refine k_iinc (pc := 51) (lv' := [(4, gI (v26 + 1)), (2, gL v47), (0, .ref (a 5))]) E 2 dX2_atOnce_51 rfl (by decide) rfl ?_
        refine k_goto (pc := 54) (tgt := 12) E dX2_atOnce_54 (by decide) ?_
        refine k_lv (lv' := [(0, .ref (a 5)), (2, gL v47), (4, gI (v26 + 1))]) [2, 1, 0] rfl ?_
        exact ih v47 (v26 + 1) s40 ⟨(by omega), (by omega), hf_s40, hORx_s40, hBEx_s40, hKF_s40, (by first | assumption | omega), (by first | assumption | omega)⟩ (by omega) (fun w30 w31 s32 hw hi => hk w30 w31 s32 (hT.trans hw) hi)
      · replace hT := hT.trans (if_neg h33)
        refine k_icmp_ge_t (pc := 16) (tgt := 57) E (by omega) (by omega) dX2_atOnce_16 (by decide) h33 ?_
        refine k_lv (lv' := [(2, gL v25)]) [1] rfl ?_
        exact hk v25 v26 s27 hT ⟨(by omega), (by omega), hf_s27, hORx_s27, hBEx_s27, hKF_s27, (by first | assumption | omega), (by first | assumption | omega)⟩
  refine k_lv (lv' := [(0, .ref (a 5)), (2, gL 1000000000), (4, gI 0)]) [2, 1, 0] rfl ?_
  refine L28 17 1000000000 0 s3 ⟨(by omega), (by omega), hf_s3, hORx_s3, hBEx_s3, hKF_s3, (by first | assumption | omega), (by first | assumption | omega)⟩ (by omega) (fun v56 v57 s58 hw hq => ?_)
  obtain ⟨hq59, hq60, hf_s58, hORx_s58, hBEx_s58, hKF_s58, hq61, hq62⟩ := hq
  replace hT := gl3y hT hw
  refine k_lloadn (pc := 57) E 0 dX2_atOnce_57 rfl rfl ?_
  exact k_rho hT (k_lret (pc := 58) E dX2_atOnce_58 (by omega))

def f_X8_likely (x0 : Int) (x1 : Int) (s0 : gMem) : gRes := (if (f_X8_outside x0 65536) = 0 then (if (f_X8_outside x1 3) = 0 then gb (f_X2_from x1 s0) (fun r8 s9 => gb (f_X2_atOnce x0 s9) (fun r13 s14 => (r13, s14))) else ((-4611686018427387904), s0)) else ((-4611686018427387904), s0))
theorem f_X8_likely_e (x0 : Int) (x1 : Int) (s0 : gMem) : f_X8_likely x0 x1 s0 = (if (f_X8_outside x0 65536) = 0 then (if (f_X8_outside x1 3) = 0 then gb (f_X2_from x1 s0) (fun r8 s9 => gb (f_X2_atOnce x0 s9) (fun r13 s14 => (r13, s14))) else ((-4611686018427387904), s0)) else ((-4611686018427387904), s0)) := rfl
set_option maxRecDepth 100000 in
set_option maxHeartbeats 4000000 in
theorem f_X8_likely_p (x0 : Int) (x1 : Int) (s0 : gMem) (hx0 : in32 x0) (hx1 : in32 x1) (hm_s0 : gMR lgX s0) (hpre0 : CD s0) (hpre1 : BG s0) (hpre2 : LA s0) (hpre3 : MOx s0) (hpre4 : KM s0) (hpre5 : WY s0) (hpre6 : ORx s0) (hpre7 : BEx s0) (hpre8 : KF s0) (rZ : Int) (sZ : gMem) (hres : f_X8_likely x0 x1 s0 = (rZ, sZ)) : (fr [32, 36, 37, 42, 43, 44, 64] s0 sZ) ∧ (gMR lgX sZ) ∧ (in64 rZ) ∧ (KM sZ) ∧ (WY sZ) ∧ (ORx sZ) ∧ (BEx sZ) ∧ (KF sZ) := by
  have hT := f_X8_likely_e x0 x1 s0
  have hf_s0 : fr [32, 36, 37, 42, 43, 44, 64] s0 s0 := fr.rf _ _
  have hKM_s0 := hpre4
  have hWY_s0 := hpre5
  have hORx_s0 := hpre6
  have hBEx_s0 := hpre7
  have hKF_s0 := hpre8
  have hp2 := f_X8_outside_p x0 65536 (by omega) (by omega) 
  by_cases h3 : (f_X8_outside x0 65536) = 0
  · replace hT := hT.trans (if_pos h3)
    have hp5 := f_X8_outside_p x1 3 (by omega) (by omega) 
    by_cases h6 : (f_X8_outside x1 3) = 0
    · replace hT := hT.trans (if_pos h6)
      obtain ⟨r8, s9, hs9⟩ : ∃ rr ss, (f_X2_from x1 s0) = (rr, ss) := ⟨_, _, rfl⟩
      replace hT := gby hT hs9
      have hp10 := f_X2_from_p x1 s0 (by omega) hm_s0 hKM_s0 hWY_s0 (by first | assumption | omega) r8 s9 hs9
      obtain ⟨hfc_s9, hm_s9, hp11, hKM_s9, hWY_s9⟩ := hp10
      have hf_s9 : fr [32, 36, 37, 42, 43, 44, 64] s0 s9 := hf_s0.call (by decide) hfc_s9
      have hORx_s9 : ORx s9 := ORx_fr hORx_s0 (fun k hk => hfc_s9 k (dj (by decide) k hk))
      have hBEx_s9 : BEx s9 := BEx_fr hBEx_s0 (fun k hk => hfc_s9 k (dj (by decide) k hk))
      have hKF_s9 : KF s9 := KF_fr hKF_s0 (fun k hk => hfc_s9 k (dj (by decide) k hk))
      obtain ⟨r13, s14, hs14⟩ : ∃ rr ss, (f_X2_atOnce x0 s9) = (rr, ss) := ⟨_, _, rfl⟩
      replace hT := gby hT hs14
      have hp15 := f_X2_atOnce_p x0 s9 (by omega) hm_s9 (CD_fr hpre0 (fun k hk => hf_s9 k (dj (by decide) k hk))) (BG_fr hpre1 (fun k hk => hf_s9 k (dj (by decide) k hk))) (LA_fr hpre2 (fun k hk => hf_s9 k (dj (by decide) k hk))) (MOx_fr hpre3 (fun k hk => hf_s9 k (dj (by decide) k hk))) hORx_s9 hBEx_s9 hWY_s9 hKF_s9 r13 s14 hs14
      obtain ⟨hfc_s14, hm_s14, hp16, hORx_s14, hBEx_s14, hKF_s14, hp17⟩ := hp15
      have hf_s14 : fr [32, 36, 37, 42, 43, 44, 64] s0 s14 := hf_s9.call (by decide) hfc_s14
      have hKM_s14 : KM s14 := KM_fr hKM_s9 (fun k hk => hfc_s14 k (dj (by decide) k hk))
      have hWY_s14 : WY s14 := WY_fr hWY_s9 (fun k hk => hfc_s14 k (dj (by decide) k hk))
      obtain ⟨rfl, rfl⟩ := Prod.mk.inj (hT.symm.trans hres)
      exact ⟨hf_s14, hm_s14, (by omega), hKM_s14, hWY_s14, hORx_s14, hBEx_s14, hKF_s14⟩
    · replace hT := hT.trans (if_neg h6)
      obtain ⟨rfl, rfl⟩ := Prod.mk.inj (hT.symm.trans hres)
      exact ⟨hf_s0, hm_s0, (by omega), hKM_s0, hWY_s0, hORx_s0, hBEx_s0, hKF_s0⟩
  · replace hT := hT.trans (if_neg h3)
    obtain ⟨rfl, rfl⟩ := Prod.mk.inj (hT.symm.trans hres)
    exact ⟨hf_s0, hm_s0, (by omega), hKM_s0, hWY_s0, hORx_s0, hBEx_s0, hKF_s0⟩
set_option maxRecDepth 100000 in
set_option maxHeartbeats 4000000 in
theorem c_X8_likely (l : Launch) (D : va_G) (a : Nat → Nat) (cI cJ cS cT : ClassId) (s0 : gMem) (x0 : Int) (x1 : Int) (hx0 : in32 x0) (hx1 : in32 x1) (hpre0 : CD s0) (hpre1 : BG s0) (hpre2 : LA s0) (hpre3 : MOx s0) (hpre4 : KM s0) (hpre5 : WY s0) (hpre6 : ORx s0) (hpre7 : BEx s0) (hpre8 : KF s0) : gC l yX8_likely cX8_likely 3 (some .long) 5 320 D vwCl (gT cI cJ cS cT) (wdX a cI cJ cS cT) lgX kJ in64 [.ref (a 0), gI x0, gI x1] s0 (f_X8_likely x0 x1 s0) := by
  refine gC_of (by decide +kernel) (hwdX a cI cJ cS cT) (Nat.le_of_ble_eq_true rfl) ?_
  intro A p e R s m args below meth c hR E
  subst hR
  have hT := f_X8_likely_e x0 x1 s0
  have hf_s0 : fr [32, 36, 37, 42, 43, 44, 64] s0 s0 := fr.rf _ _
  refine k_lv0 (lv' := [(0, .ref (a 0)), (1, gI x0), (2, gI x1)]) rfl ?_
  refine k_mr (fun hm_s0 => ?_)
  have hKM_s0 := hpre4
  have hWY_s0 := hpre5
  have hORx_s0 := hpre6
  have hBEx_s0 := hpre7
  have hKF_s0 := hpre8
  refine k_iloadn (pc := 0) E 1 dX8_likely_0 rfl rfl ?_
  refine k_ldc (pc := 1) (n := 65536) E dX8_likely_1 wm_311 (by decide) ?_
  refine k_mr (fun hm_s0 => ?_)
  refine k_callS (pc := 3) (np := 2) (As := [gI x0, gI 65536]) (st := []) E (c_X8_outside l D a cI cJ cS cT s0 x0 65536 (by omega) (by omega)) wm_310 wm_1 wm_308 wm_309 (by decide +kernel) ⟨by decide, by decide⟩ rfl (Nat.le_of_ble_eq_true rfl) dX8_likely_3 (ro_kk (fun hr1 => ?_))
  have hp2 := f_X8_outside_p x0 65536 (by omega) (by omega) 
  refine k_st (st' := [gI (f_X8_outside x0 65536)]) rfl ?_
  by_cases h3 : (f_X8_outside x0 65536) = 0
  · replace hT := hT.trans (if_pos h3)
    refine k_if_ne_f (pc := 6) (tgt := 17) E (by omega) dX8_likely_6 (by decide) h3 ?_
    refine k_iloadn (pc := 9) E 2 dX8_likely_9 rfl rfl ?_
    refine k_iconst (pc := 10) E dX8_likely_10 ?_
    refine k_mr (fun hm_s0 => ?_)
    refine k_callS (pc := 11) (np := 2) (As := [gI x1, gI 3]) (st := []) E (c_X8_outside l D a cI cJ cS cT s0 x1 3 (by omega) (by omega)) wm_310 wm_1 wm_308 wm_309 (by decide +kernel) ⟨by decide, by decide⟩ rfl (Nat.le_of_ble_eq_true rfl) dX8_likely_11 (ro_kk (fun hr4 => ?_))
    have hp5 := f_X8_outside_p x1 3 (by omega) (by omega) 
    refine k_st (st' := [gI (f_X8_outside x1 3)]) rfl ?_
    by_cases h6 : (f_X8_outside x1 3) = 0
    · replace hT := hT.trans (if_pos h6)
      refine k_if_eq_t (pc := 14) (tgt := 21) E (by omega) dX8_likely_14 (by decide) h6 ?_
      refine k_aloadn (pc := 21) E 0 dX8_likely_21 rfl rfl ?_
      refine k_getf (pc := 22) (q0 := 0) (f := 3) (v := .ref (a 5)) E inX8 rfl rfl (by decide) wm_275 rfl rfl dX8_likely_22 ?_
      refine k_iloadn (pc := 25) E 2 dX8_likely_25 rfl rfl ?_
      refine k_mr (fun hm_s0 => ?_)
      refine k_callV (pc := 26) (np := 1) (As := [gI x1]) (st := []) (q0 := 5) E (c_X2_from l D a cI cJ cS cT s0 x1 (by omega) hKM_s0 hWY_s0 (by first | assumption | omega)) wm_566 wm_7 wm_563 wm_564 wm_565 (by decide +kernel) rfl rfl ⟨by decide, by decide⟩ rfl (Nat.le_of_ble_eq_true rfl) dX8_likely_26 (fun r8 s9 hs9 hr7 => ?_)
      replace hT := gby hT hs9
      have hp10 := f_X2_from_p x1 s0 (by omega) hm_s0 hKM_s0 hWY_s0 (by first | assumption | omega) r8 s9 hs9
      obtain ⟨hfc_s9, hm_s9, hp11, hKM_s9, hWY_s9⟩ := hp10
      have hf_s9 : fr [32, 36, 37, 42, 43, 44, 64] s0 s9 := hf_s0.call (by decide) hfc_s9
      have hORx_s9 : ORx s9 := ORx_fr hORx_s0 (fun k hk => hfc_s9 k (dj (by decide) k hk))
      have hBEx_s9 : BEx s9 := BEx_fr hBEx_s0 (fun k hk => hfc_s9 k (dj (by decide) k hk))
      have hKF_s9 : KF s9 := KF_fr hKF_s0 (fun k hk => hfc_s9 k (dj (by decide) k hk))
      refine k_st (st' := []) rfl ?_
      refine k_aloadn (pc := 29) E 0 dX8_likely_29 rfl rfl ?_
      refine k_getf (pc := 30) (q0 := 0) (f := 3) (v := .ref (a 5)) E inX8 rfl rfl (by decide) wm_275 rfl rfl dX8_likely_30 ?_
      refine k_iloadn (pc := 33) E 1 dX8_likely_33 rfl rfl ?_
      refine k_mr (fun hm_s9 => ?_)
      refine k_callV (pc := 34) (np := 1) (As := [gI x0]) (st := []) (q0 := 5) E (c_X2_atOnce l D a cI cJ cS cT s9 x0 (by omega) (CD_fr hpre0 (fun k hk => hf_s9 k (dj (by decide) k hk))) (BG_fr hpre1 (fun k hk => hf_s9 k (dj (by decide) k hk))) (LA_fr hpre2 (fun k hk => hf_s9 k (dj (by decide) k hk))) (MOx_fr hpre3 (fun k hk => hf_s9 k (dj (by decide) k hk))) hORx_s9 hBEx_s9 hWY_s9 hKF_s9) wm_659 wm_7 wm_656 wm_657 wm_658 (by decide +kernel) rfl rfl ⟨by decide, by decide⟩ rfl (Nat.le_of_ble_eq_true rfl) dX8_likely_34 (fun r13 s14 hs14 hr12 => ?_)
      replace hT := gby hT hs14
      have hp15 := f_X2_atOnce_p x0 s9 (by omega) hm_s9 (CD_fr hpre0 (fun k hk => hf_s9 k (dj (by decide) k hk))) (BG_fr hpre1 (fun k hk => hf_s9 k (dj (by decide) k hk))) (LA_fr hpre2 (fun k hk => hf_s9 k (dj (by decide) k hk))) (MOx_fr hpre3 (fun k hk => hf_s9 k (dj (by decide) k hk))) hORx_s9 hBEx_s9 hWY_s9 hKF_s9 r13 s14 hs14
      obtain ⟨hfc_s14, hm_s14, hp16, hORx_s14, hBEx_s14, hKF_s14, hp17⟩ := hp15
      have hf_s14 : fr [32, 36, 37, 42, 43, 44, 64] s0 s14 := hf_s9.call (by decide) hfc_s14
      have hKM_s14 : KM s14 := KM_fr hKM_s9 (fun k hk => hfc_s14 k (dj (by decide) k hk))
      have hWY_s14 : WY s14 := WY_fr hWY_s9 (fun k hk => hfc_s14 k (dj (by decide) k hk))
      refine k_st (st' := [gL r13]) rfl ?_
      exact k_rho hT (k_lret (pc := 37) E dX8_likely_37 (by omega))
    · replace hT := hT.trans (if_neg h6)
      refine k_if_eq_f (pc := 14) (tgt := 21) E (by omega) dX8_likely_14 (by decide) h6 ?_
      refine k_ldc2 (pc := 17) (n := (-4611686018427387904)) E dX8_likely_17 wm_562 (by decide) ?_
      exact k_rho hT (k_lret (pc := 20) E dX8_likely_20 (by omega))
  · replace hT := hT.trans (if_neg h3)
    refine k_if_ne_t (pc := 6) (tgt := 17) E (by omega) dX8_likely_6 (by decide) h3 ?_
    refine k_ldc2 (pc := 17) (n := (-4611686018427387904)) E dX8_likely_17 wm_562 (by decide) ?_
    exact k_rho hT (k_lret (pc := 20) E dX8_likely_20 (by omega))

def f_X8_drawn (x0 : Int) (x1 : Int) (x2 : Int) (s0 : gMem) : gRes := (if (f_X8_outside x0 100000) = 0 then (if (f_X8_outside x1 401) = 0 then (if (f_X8_outside x2 3) = 0 then gb (f_X2_from (s0 61 0) s0) (fun r13 s14 => gb (f_X2_arrange (s14 59 0) s14) (fun r19 s20 => gb (f_X0_drawRow x0 x1 s20) (fun r24 s25 => (if x2 = 0 then ((s25 73 0), s25) else (if x2 = 1 then ((s25 72 0), s25) else ((s25 74 0), s25)))))) else ((-2), s0)) else ((-2), s0)) else ((-2), s0))
theorem f_X8_drawn_e (x0 : Int) (x1 : Int) (x2 : Int) (s0 : gMem) : f_X8_drawn x0 x1 x2 s0 = (if (f_X8_outside x0 100000) = 0 then (if (f_X8_outside x1 401) = 0 then (if (f_X8_outside x2 3) = 0 then gb (f_X2_from (s0 61 0) s0) (fun r13 s14 => gb (f_X2_arrange (s14 59 0) s14) (fun r19 s20 => gb (f_X0_drawRow x0 x1 s20) (fun r24 s25 => (if x2 = 0 then ((s25 73 0), s25) else (if x2 = 1 then ((s25 72 0), s25) else ((s25 74 0), s25)))))) else ((-2), s0)) else ((-2), s0)) else ((-2), s0)) := rfl
set_option maxRecDepth 100000 in
set_option maxHeartbeats 4000000 in
theorem f_X8_drawn_p (x0 : Int) (x1 : Int) (x2 : Int) (s0 : gMem) (hx0 : in32 x0) (hx1 : in32 x1) (hx2 : in32 x2) (hm_s0 : gMR lgX s0) (hpre0 : CD s0) (hpre1 : BG s0) (hpre2 : LA s0) (hpre3 : MOx s0) (hpre4 : EN s0) (hpre5 : RE s0) (hpre6 : ST s0) (hpre7 : KM s0) (hpre8 : WY s0) (hpre9 : ORx s0) (hpre10 : BEx s0) (hpre11 : KF s0) (hpre12 : LST s0) (hpre13 : LT s0) (rZ : Int) (sZ : gMem) (hres : f_X8_drawn x0 x1 x2 s0 = (rZ, sZ)) : (fr [32, 36, 37, 42, 43, 44, 64, 71, 72, 73, 74] s0 sZ) ∧ (gMR lgX sZ) ∧ (in32 rZ) ∧ (KM sZ) ∧ (WY sZ) ∧ (ORx sZ) ∧ (BEx sZ) ∧ (KF sZ) ∧ (LST sZ) ∧ (LT sZ) := by
  have hT := f_X8_drawn_e x0 x1 x2 s0
  have hf_s0 : fr [32, 36, 37, 42, 43, 44, 64, 71, 72, 73, 74] s0 s0 := fr.rf _ _
  have hKM_s0 := hpre7
  have hWY_s0 := hpre8
  have hORx_s0 := hpre9
  have hBEx_s0 := hpre10
  have hKF_s0 := hpre11
  have hLST_s0 := hpre12
  have hLT_s0 := hpre13
  have hp2 := f_X8_outside_p x0 100000 (by omega) (by omega) 
  by_cases h3 : (f_X8_outside x0 100000) = 0
  · replace hT := hT.trans (if_pos h3)
    have hp5 := f_X8_outside_p x1 401 (by omega) (by omega) 
    by_cases h6 : (f_X8_outside x1 401) = 0
    · replace hT := hT.trans (if_pos h6)
      have hp8 := f_X8_outside_p x2 3 (by omega) (by omega) 
      by_cases h9 : (f_X8_outside x2 3) = 0
      · replace hT := hT.trans (if_pos h9)
        have hr10 := (hm_s0 61 0).1 rfl
        have hi11 := hpre4 0
        obtain ⟨r13, s14, hs14⟩ : ∃ rr ss, (f_X2_from (s0 61 0) s0) = (rr, ss) := ⟨_, _, rfl⟩
        replace hT := gby hT hs14
        have hp15 := f_X2_from_p (s0 61 0) s0 (by omega) hm_s0 hKM_s0 hWY_s0 (by first | assumption | omega) r13 s14 hs14
        obtain ⟨hfc_s14, hm_s14, hp16, hKM_s14, hWY_s14⟩ := hp15
        have hf_s14 : fr [32, 36, 37, 42, 43, 44, 64, 71, 72, 73, 74] s0 s14 := hf_s0.call (by decide) hfc_s14
        have hORx_s14 : ORx s14 := ORx_fr hORx_s0 (fun k hk => hfc_s14 k (dj (by decide) k hk))
        have hBEx_s14 : BEx s14 := BEx_fr hBEx_s0 (fun k hk => hfc_s14 k (dj (by decide) k hk))
        have hKF_s14 : KF s14 := KF_fr hKF_s0 (fun k hk => hfc_s14 k (dj (by decide) k hk))
        have hLST_s14 : LST s14 := LST_fr hLST_s0 (fun k hk => hfc_s14 k (dj (by decide) k hk))
        have hLT_s14 : LT s14 := LT_fr hLT_s0 (fun k hk => hfc_s14 k (dj (by decide) k hk))
        have hr17 := (hm_s14 59 0).1 rfl
        obtain ⟨r19, s20, hs20⟩ : ∃ rr ss, (f_X2_arrange (s14 59 0) s14) = (rr, ss) := ⟨_, _, rfl⟩
        replace hT := gby hT hs20
        have hp21 := f_X2_arrange_p (s14 59 0) s14 (by omega) hm_s14 hORx_s14 hBEx_s14 hWY_s14 r19 s20 hs20
        obtain ⟨hfc_s20, hm_s20, hp22, hORx_s20, hBEx_s20⟩ := hp21
        have hf_s20 : fr [32, 36, 37, 42, 43, 44, 64, 71, 72, 73, 74] s0 s20 := hf_s14.call (by decide) hfc_s20
        have hKM_s20 : KM s20 := KM_fr hKM_s14 (fun k hk => hfc_s20 k (dj (by decide) k hk))
        have hWY_s20 : WY s20 := WY_fr hWY_s14 (fun k hk => hfc_s20 k (dj (by decide) k hk))
        have hKF_s20 : KF s20 := KF_fr hKF_s14 (fun k hk => hfc_s20 k (dj (by decide) k hk))
        have hLST_s20 : LST s20 := LST_fr hLST_s14 (fun k hk => hfc_s20 k (dj (by decide) k hk))
        have hLT_s20 : LT s20 := LT_fr hLT_s14 (fun k hk => hfc_s20 k (dj (by decide) k hk))
        obtain ⟨r24, s25, hs25⟩ : ∃ rr ss, (f_X0_drawRow x0 x1 s20) = (rr, ss) := ⟨_, _, rfl⟩
        replace hT := gby hT hs25
        have hp26 := f_X0_drawRow_p x0 x1 s20 (by omega) (by omega) hm_s20 (CD_fr hpre0 (fun k hk => hf_s20 k (dj (by decide) k hk))) (BG_fr hpre1 (fun k hk => hf_s20 k (dj (by decide) k hk))) (LA_fr hpre2 (fun k hk => hf_s20 k (dj (by decide) k hk))) (MOx_fr hpre3 (fun k hk => hf_s20 k (dj (by decide) k hk))) hKF_s20 hLST_s20 hLT_s20 (RE_fr hpre5 (fun k hk => hf_s20 k (dj (by decide) k hk))) hORx_s20 (ST_fr hpre6 (fun k hk => hf_s20 k (dj (by decide) k hk))) (by first | assumption | omega) (by first | assumption | omega) r24 s25 hs25
        obtain ⟨hfc_s25, hm_s25, hp27, hKF_s25, hLST_s25, hLT_s25⟩ := hp26
        have hf_s25 : fr [32, 36, 37, 42, 43, 44, 64, 71, 72, 73, 74] s0 s25 := hf_s20.call (by decide) hfc_s25
        have hKM_s25 : KM s25 := KM_fr hKM_s20 (fun k hk => hfc_s25 k (dj (by decide) k hk))
        have hWY_s25 : WY s25 := WY_fr hWY_s20 (fun k hk => hfc_s25 k (dj (by decide) k hk))
        have hORx_s25 : ORx s25 := ORx_fr hORx_s20 (fun k hk => hfc_s25 k (dj (by decide) k hk))
        have hBEx_s25 : BEx s25 := BEx_fr hBEx_s20 (fun k hk => hfc_s25 k (dj (by decide) k hk))
        by_cases h28 : x2 = 0
        · replace hT := hT.trans (if_pos h28)
          have hr30 := (hm_s25 73 0).1 rfl
          obtain ⟨rfl, rfl⟩ := Prod.mk.inj (hT.symm.trans hres)
          exact ⟨hf_s25, hm_s25, (by omega), hKM_s25, hWY_s25, hORx_s25, hBEx_s25, hKF_s25, hLST_s25, hLT_s25⟩
        · replace hT := hT.trans (if_neg h28)
          by_cases h29 : x2 = 1
          · replace hT := hT.trans (if_pos h29)
            have hr31 := (hm_s25 72 0).1 rfl
            have hi32 := hLST_s25 0
            obtain ⟨rfl, rfl⟩ := Prod.mk.inj (hT.symm.trans hres)
            exact ⟨hf_s25, hm_s25, (by omega), hKM_s25, hWY_s25, hORx_s25, hBEx_s25, hKF_s25, hLST_s25, hLT_s25⟩
          · replace hT := hT.trans (if_neg h29)
            have hr33 := (hm_s25 74 0).1 rfl
            obtain ⟨rfl, rfl⟩ := Prod.mk.inj (hT.symm.trans hres)
            exact ⟨hf_s25, hm_s25, (by omega), hKM_s25, hWY_s25, hORx_s25, hBEx_s25, hKF_s25, hLST_s25, hLT_s25⟩
      · replace hT := hT.trans (if_neg h9)
        obtain ⟨rfl, rfl⟩ := Prod.mk.inj (hT.symm.trans hres)
        exact ⟨hf_s0, hm_s0, (by omega), hKM_s0, hWY_s0, hORx_s0, hBEx_s0, hKF_s0, hLST_s0, hLT_s0⟩
    · replace hT := hT.trans (if_neg h6)
      obtain ⟨rfl, rfl⟩ := Prod.mk.inj (hT.symm.trans hres)
      exact ⟨hf_s0, hm_s0, (by omega), hKM_s0, hWY_s0, hORx_s0, hBEx_s0, hKF_s0, hLST_s0, hLT_s0⟩
  · replace hT := hT.trans (if_neg h3)
    obtain ⟨rfl, rfl⟩ := Prod.mk.inj (hT.symm.trans hres)
    exact ⟨hf_s0, hm_s0, (by omega), hKM_s0, hWY_s0, hORx_s0, hBEx_s0, hKF_s0, hLST_s0, hLT_s0⟩
set_option maxRecDepth 100000 in
set_option maxHeartbeats 4000000 in
theorem c_X8_drawn (l : Launch) (D : va_G) (a : Nat → Nat) (cI cJ cS cT : ClassId) (s0 : gMem) (x0 : Int) (x1 : Int) (x2 : Int) (hx0 : in32 x0) (hx1 : in32 x1) (hx2 : in32 x2) (hpre0 : CD s0) (hpre1 : BG s0) (hpre2 : LA s0) (hpre3 : MOx s0) (hpre4 : EN s0) (hpre5 : RE s0) (hpre6 : ST s0) (hpre7 : KM s0) (hpre8 : WY s0) (hpre9 : ORx s0) (hpre10 : BEx s0) (hpre11 : KF s0) (hpre12 : LST s0) (hpre13 : LT s0) : gC l yX8_drawn cX8_drawn 4 (some .int) 6 384 D vwCl (gT cI cJ cS cT) (wdX a cI cJ cS cT) lgX kI in32 [.ref (a 0), gI x0, gI x1, gI x2] s0 (f_X8_drawn x0 x1 x2 s0) := by
  refine gC_of (by decide +kernel) (hwdX a cI cJ cS cT) (Nat.le_of_ble_eq_true rfl) ?_
  intro A p e R s m args below meth c hR E
  subst hR
  have hT := f_X8_drawn_e x0 x1 x2 s0
  have hf_s0 : fr [32, 36, 37, 42, 43, 44, 64, 71, 72, 73, 74] s0 s0 := fr.rf _ _
  refine k_lv0 (lv' := [(0, .ref (a 0)), (1, gI x0), (2, gI x1), (3, gI x2)]) rfl ?_
  refine k_mr (fun hm_s0 => ?_)
  have hKM_s0 := hpre7
  have hWY_s0 := hpre8
  have hORx_s0 := hpre9
  have hBEx_s0 := hpre10
  have hKF_s0 := hpre11
  have hLST_s0 := hpre12
  have hLT_s0 := hpre13
  refine k_iloadn (pc := 0) E 1 dX8_drawn_0 rfl rfl ?_
  refine k_ldc (pc := 1) (n := 100000) E dX8_drawn_1 wm_696 (by decide) ?_
  refine k_mr (fun hm_s0 => ?_)
  refine k_callS (pc := 3) (np := 2) (As := [gI x0, gI 100000]) (st := []) E (c_X8_outside l D a cI cJ cS cT s0 x0 100000 (by omega) (by omega)) wm_310 wm_1 wm_308 wm_309 (by decide +kernel) ⟨by decide, by decide⟩ rfl (Nat.le_of_ble_eq_true rfl) dX8_drawn_3 (ro_kk (fun hr1 => ?_))
  have hp2 := f_X8_outside_p x0 100000 (by omega) (by omega) 
  refine k_st (st' := [gI (f_X8_outside x0 100000)]) rfl ?_
  by_cases h3 : (f_X8_outside x0 100000) = 0
  · replace hT := hT.trans (if_pos h3)
    refine k_if_ne_f (pc := 6) (tgt := 27) E (by omega) dX8_drawn_6 (by decide) h3 ?_
    refine k_iloadn (pc := 9) E 2 dX8_drawn_9 rfl rfl ?_
    refine k_sipush (pc := 10) E dX8_drawn_10 (by decide) ?_
    refine k_mr (fun hm_s0 => ?_)
    refine k_callS (pc := 13) (np := 2) (As := [gI x1, gI 401]) (st := []) E (c_X8_outside l D a cI cJ cS cT s0 x1 401 (by omega) (by omega)) wm_310 wm_1 wm_308 wm_309 (by decide +kernel) ⟨by decide, by decide⟩ rfl (Nat.le_of_ble_eq_true rfl) dX8_drawn_13 (ro_kk (fun hr4 => ?_))
    have hp5 := f_X8_outside_p x1 401 (by omega) (by omega) 
    refine k_st (st' := [gI (f_X8_outside x1 401)]) rfl ?_
    by_cases h6 : (f_X8_outside x1 401) = 0
    · replace hT := hT.trans (if_pos h6)
      refine k_if_ne_f (pc := 16) (tgt := 27) E (by omega) dX8_drawn_16 (by decide) h6 ?_
      refine k_iloadn (pc := 19) E 3 dX8_drawn_19 rfl rfl ?_
      refine k_iconst (pc := 20) E dX8_drawn_20 ?_
      refine k_mr (fun hm_s0 => ?_)
      refine k_callS (pc := 21) (np := 2) (As := [gI x2, gI 3]) (st := []) E (c_X8_outside l D a cI cJ cS cT s0 x2 3 (by omega) (by omega)) wm_310 wm_1 wm_308 wm_309 (by decide +kernel) ⟨by decide, by decide⟩ rfl (Nat.le_of_ble_eq_true rfl) dX8_drawn_21 (ro_kk (fun hr7 => ?_))
      have hp8 := f_X8_outside_p x2 3 (by omega) (by omega) 
      refine k_st (st' := [gI (f_X8_outside x2 3)]) rfl ?_
      by_cases h9 : (f_X8_outside x2 3) = 0
      · replace hT := hT.trans (if_pos h9)
        refine k_if_eq_t (pc := 24) (tgt := 30) E (by omega) dX8_drawn_24 (by decide) h9 ?_
        refine k_aloadn (pc := 30) E 0 dX8_drawn_30 rfl rfl ?_
        refine k_getf (pc := 31) (q0 := 0) (f := 3) (v := .ref (a 5)) E inX8 rfl rfl (by decide) wm_275 rfl rfl dX8_drawn_31 ?_
        refine k_aloadn (pc := 34) E 0 dX8_drawn_34 rfl rfl ?_
        refine k_getf (pc := 35) (q0 := 0) (f := 2) (v := .ref (a 3)) E inX8 rfl rfl (by decide) wm_274 rfl rfl dX8_drawn_35 ?_
        refine k_getf (pc := 38) (q0 := 3) (f := 0) (v := .ref (a 4)) E inX4 rfl rfl (by decide) wm_149 rfl rfl dX8_drawn_38 ?_
        refine k_getfI (pc := 41) (q0 := 4) (f := 4) (k := 61) E inX6 rfl rfl (by decide) wm_116 rfl rfl rfl dX8_drawn_41 (fun hr10 => ?_)
        have hi11 := hpre4 0
        refine k_mr (fun hm_s0 => ?_)
        refine k_callV (pc := 44) (np := 1) (As := [gI (s0 61 0)]) (st := []) (q0 := 5) E (c_X2_from l D a cI cJ cS cT s0 (s0 61 0) (by omega) hKM_s0 hWY_s0 (by first | assumption | omega)) wm_566 wm_7 wm_563 wm_564 wm_565 (by decide +kernel) rfl rfl ⟨by decide, by decide⟩ rfl (Nat.le_of_ble_eq_true rfl) dX8_drawn_44 (fun r13 s14 hs14 hr12 => ?_)
        replace hT := gby hT hs14
        have hp15 := f_X2_from_p (s0 61 0) s0 (by omega) hm_s0 hKM_s0 hWY_s0 (by first | assumption | omega) r13 s14 hs14
        obtain ⟨hfc_s14, hm_s14, hp16, hKM_s14, hWY_s14⟩ := hp15
        have hf_s14 : fr [32, 36, 37, 42, 43, 44, 64, 71, 72, 73, 74] s0 s14 := hf_s0.call (by decide) hfc_s14
        have hORx_s14 : ORx s14 := ORx_fr hORx_s0 (fun k hk => hfc_s14 k (dj (by decide) k hk))
        have hBEx_s14 : BEx s14 := BEx_fr hBEx_s0 (fun k hk => hfc_s14 k (dj (by decide) k hk))
        have hKF_s14 : KF s14 := KF_fr hKF_s0 (fun k hk => hfc_s14 k (dj (by decide) k hk))
        have hLST_s14 : LST s14 := LST_fr hLST_s0 (fun k hk => hfc_s14 k (dj (by decide) k hk))
        have hLT_s14 : LT s14 := LT_fr hLT_s0 (fun k hk => hfc_s14 k (dj (by decide) k hk))
        refine k_st (st' := []) rfl ?_
        refine k_aloadn (pc := 47) E 0 dX8_drawn_47 rfl rfl ?_
        refine k_getf (pc := 48) (q0 := 0) (f := 3) (v := .ref (a 5)) E inX8 rfl rfl (by decide) wm_275 rfl rfl dX8_drawn_48 ?_
        refine k_aloadn (pc := 51) E 0 dX8_drawn_51 rfl rfl ?_
        refine k_getf (pc := 52) (q0 := 0) (f := 2) (v := .ref (a 3)) E inX8 rfl rfl (by decide) wm_274 rfl rfl dX8_drawn_52 ?_
        refine k_getf (pc := 55) (q0 := 3) (f := 0) (v := .ref (a 4)) E inX4 rfl rfl (by decide) wm_149 rfl rfl dX8_drawn_55 ?_
        refine k_getfI (pc := 58) (q0 := 4) (f := 2) (k := 59) E inX6 rfl rfl (by decide) wm_109 rfl rfl rfl dX8_drawn_58 (fun hr17 => ?_)
        refine k_mr (fun hm_s14 => ?_)
        refine k_callV (pc := 61) (np := 1) (As := [gI (s14 59 0)]) (st := []) (q0 := 5) E (c_X2_arrange l D a cI cJ cS cT s14 (s14 59 0) (by omega) hORx_s14 hBEx_s14 hWY_s14) wm_663 wm_7 wm_715 wm_661 wm_662 (by decide +kernel) rfl rfl ⟨by decide, by decide⟩ rfl (Nat.le_of_ble_eq_true rfl) dX8_drawn_61 (fun r19 s20 hs20 hr18 => ?_)
        replace hT := gby hT hs20
        have hp21 := f_X2_arrange_p (s14 59 0) s14 (by omega) hm_s14 hORx_s14 hBEx_s14 hWY_s14 r19 s20 hs20
        obtain ⟨hfc_s20, hm_s20, hp22, hORx_s20, hBEx_s20⟩ := hp21
        have hf_s20 : fr [32, 36, 37, 42, 43, 44, 64, 71, 72, 73, 74] s0 s20 := hf_s14.call (by decide) hfc_s20
        have hKM_s20 : KM s20 := KM_fr hKM_s14 (fun k hk => hfc_s20 k (dj (by decide) k hk))
        have hWY_s20 : WY s20 := WY_fr hWY_s14 (fun k hk => hfc_s20 k (dj (by decide) k hk))
        have hKF_s20 : KF s20 := KF_fr hKF_s14 (fun k hk => hfc_s20 k (dj (by decide) k hk))
        have hLST_s20 : LST s20 := LST_fr hLST_s14 (fun k hk => hfc_s20 k (dj (by decide) k hk))
        have hLT_s20 : LT s20 := LT_fr hLT_s14 (fun k hk => hfc_s20 k (dj (by decide) k hk))
        refine k_st (st' := []) rfl ?_
        refine k_aloadn (pc := 64) E 0 dX8_drawn_64 rfl rfl ?_
        refine k_getf (pc := 65) (q0 := 0) (f := 5) (v := .ref (a 7)) E inX8 rfl rfl (by decide) wm_277 rfl rfl dX8_drawn_65 ?_
        refine k_iloadn (pc := 68) E 1 dX8_drawn_68 rfl rfl ?_
        refine k_iloadn (pc := 69) E 2 dX8_drawn_69 rfl rfl ?_
        refine k_aloadn (pc := 70) E 0 dX8_drawn_70 rfl rfl ?_
        refine k_getf (pc := 71) (q0 := 0) (f := 3) (v := .ref (a 5)) E inX8 rfl rfl (by decide) wm_275 rfl rfl dX8_drawn_71 ?_
        refine k_getf (pc := 74) (q0 := 5) (f := 2) (v := .ref (a 43)) E inX2 rfl rfl (by decide) wm_177 rfl rfl dX8_drawn_74 ?_
        refine k_mr (fun hm_s20 => ?_)
        refine k_callV (pc := 77) (np := 3) (As := [gI x0, gI x1, .ref (a 43)]) (st := []) (q0 := 7) E (c_X0_drawRow l D a cI cJ cS cT s20 x0 x1 (by omega) (by omega) (CD_fr hpre0 (fun k hk => hf_s20 k (dj (by decide) k hk))) (BG_fr hpre1 (fun k hk => hf_s20 k (dj (by decide) k hk))) (LA_fr hpre2 (fun k hk => hf_s20 k (dj (by decide) k hk))) (MOx_fr hpre3 (fun k hk => hf_s20 k (dj (by decide) k hk))) hKF_s20 hLST_s20 hLT_s20 (RE_fr hpre5 (fun k hk => hf_s20 k (dj (by decide) k hk))) hORx_s20 (ST_fr hpre6 (fun k hk => hf_s20 k (dj (by decide) k hk))) (by first | assumption | omega) (by first | assumption | omega)) wm_719 wm_9 wm_716 wm_717 wm_718 (by decide +kernel) rfl rfl ⟨by decide, by decide⟩ rfl (Nat.le_of_ble_eq_true rfl) dX8_drawn_77 (fun r24 s25 hs25 hr23 => ?_)
        replace hT := gby hT hs25
        have hp26 := f_X0_drawRow_p x0 x1 s20 (by omega) (by omega) hm_s20 (CD_fr hpre0 (fun k hk => hf_s20 k (dj (by decide) k hk))) (BG_fr hpre1 (fun k hk => hf_s20 k (dj (by decide) k hk))) (LA_fr hpre2 (fun k hk => hf_s20 k (dj (by decide) k hk))) (MOx_fr hpre3 (fun k hk => hf_s20 k (dj (by decide) k hk))) hKF_s20 hLST_s20 hLT_s20 (RE_fr hpre5 (fun k hk => hf_s20 k (dj (by decide) k hk))) hORx_s20 (ST_fr hpre6 (fun k hk => hf_s20 k (dj (by decide) k hk))) (by first | assumption | omega) (by first | assumption | omega) r24 s25 hs25
        obtain ⟨hfc_s25, hm_s25, hp27, hKF_s25, hLST_s25, hLT_s25⟩ := hp26
        have hf_s25 : fr [32, 36, 37, 42, 43, 44, 64, 71, 72, 73, 74] s0 s25 := hf_s20.call (by decide) hfc_s25
        have hKM_s25 : KM s25 := KM_fr hKM_s20 (fun k hk => hfc_s25 k (dj (by decide) k hk))
        have hWY_s25 : WY s25 := WY_fr hWY_s20 (fun k hk => hfc_s25 k (dj (by decide) k hk))
        have hORx_s25 : ORx s25 := ORx_fr hORx_s20 (fun k hk => hfc_s25 k (dj (by decide) k hk))
        have hBEx_s25 : BEx s25 := BEx_fr hBEx_s20 (fun k hk => hfc_s25 k (dj (by decide) k hk))
        refine k_st (st' := []) rfl ?_
        refine k_iloadn (pc := 80) E 3 dX8_drawn_80 rfl rfl ?_
        by_cases h28 : x2 = 0
        · replace hT := hT.trans (if_pos h28)
          refine k_lookup (pc := 81) (tgt := 108) (off := 27) E dX8_drawn_81 (by omega) (by decide) (by rw [h28]; rfl) (by decide) ?_
          refine k_aloadn (pc := 108) E 0 dX8_drawn_108 rfl rfl ?_
          refine k_getf (pc := 109) (q0 := 0) (f := 5) (v := .ref (a 7)) E inX8 rfl rfl (by decide) wm_277 rfl rfl dX8_drawn_109 ?_
          refine k_getfI (pc := 112) (q0 := 7) (f := 3) (k := 73) E inX0 rfl rfl (by decide) wm_236 rfl rfl rfl dX8_drawn_112 (fun hr30 => ?_)
          exact k_rho hT (k_iret (pc := 115) E dX8_drawn_115 (by omega))
        · replace hT := hT.trans (if_neg h28)
          by_cases h29 : x2 = 1
          · replace hT := hT.trans (if_pos h29)
            refine k_lookup (pc := 81) (tgt := 116) (off := 35) E dX8_drawn_81 (by omega) (by decide) (by rw [h29]; rfl) (by decide) ?_
            refine k_aloadn (pc := 116) E 0 dX8_drawn_116 rfl rfl ?_
            refine k_getf (pc := 117) (q0 := 0) (f := 5) (v := .ref (a 7)) E inX8 rfl rfl (by decide) wm_277 rfl rfl dX8_drawn_117 ?_
            refine k_getfI (pc := 120) (q0 := 7) (f := 2) (k := 72) E inX0 rfl rfl (by decide) wm_234 rfl rfl rfl dX8_drawn_120 (fun hr31 => ?_)
            have hi32 := hLST_s25 0
            exact k_rho hT (k_iret (pc := 123) E dX8_drawn_123 (by omega))
          · replace hT := hT.trans (if_neg h29)
            refine k_lookup (pc := 81) (tgt := 124) (off := 43) E dX8_drawn_81 (by omega) (by decide) (by simp [Op.lookupswitch.offset] <;> repeat (first | rw [if_neg (by omega)] | rfl)) (by decide) ?_
            refine k_aloadn (pc := 124) E 0 dX8_drawn_124 rfl rfl ?_
            refine k_getf (pc := 125) (q0 := 0) (f := 5) (v := .ref (a 7)) E inX8 rfl rfl (by decide) wm_277 rfl rfl dX8_drawn_125 ?_
            refine k_getfI (pc := 128) (q0 := 7) (f := 4) (k := 74) E inX0 rfl rfl (by decide) wm_238 rfl rfl rfl dX8_drawn_128 (fun hr33 => ?_)
            exact k_rho hT (k_iret (pc := 131) E dX8_drawn_131 (by omega))
      · replace hT := hT.trans (if_neg h9)
        refine k_if_eq_f (pc := 24) (tgt := 30) E (by omega) dX8_drawn_24 (by decide) h9 ?_
        refine k_bipush (pc := 27) E dX8_drawn_27 (by decide) ?_
        exact k_rho hT (k_iret (pc := 29) E dX8_drawn_29 (by omega))
    · replace hT := hT.trans (if_neg h6)
      refine k_if_ne_t (pc := 16) (tgt := 27) E (by omega) dX8_drawn_16 (by decide) h6 ?_
      refine k_bipush (pc := 27) E dX8_drawn_27 (by decide) ?_
      exact k_rho hT (k_iret (pc := 29) E dX8_drawn_29 (by omega))
  · replace hT := hT.trans (if_neg h3)
    refine k_if_ne_t (pc := 6) (tgt := 27) E (by omega) dX8_drawn_6 (by decide) h3 ?_
    refine k_bipush (pc := 27) E dX8_drawn_27 (by decide) ?_
    exact k_rho hT (k_iret (pc := 29) E dX8_drawn_29 (by omega))

def w_X8_odds_83 (c1 : Int) (c2 : Int) (c3 : Int) (c4 : Int) : Nat → Int → Int → gMem → Int × Int × gMem
  | 0, v25, v26, s27 => (v25, v26, s27)
  | n28 + 1, v25, v26, s27 => (if v26 < c2 then gb (f_X0_drawRow (c1 + v26) c3 s27) (fun r31 s32 => (gl ((if (s32 72 0) = 65535 then (v25 + 1) else v25)) (fun v39 => (w_X8_odds_83 c1 c2 c3 c4 n28 v39 (v26 + 1) s32)))) else (v25, v26, s27))
theorem w_X8_odds_83_s (c1 : Int) (c2 : Int) (c3 : Int) (c4 : Int) (n28 : Nat) (v25 : Int) (v26 : Int) (s27 : gMem) : w_X8_odds_83 c1 c2 c3 c4 (n28 + 1) v25 v26 s27 = (if v26 < c2 then gb (f_X0_drawRow (c1 + v26) c3 s27) (fun r31 s32 => (gl ((if (s32 72 0) = 65535 then (v25 + 1) else v25)) (fun v39 => (w_X8_odds_83 c1 c2 c3 c4 n28 v39 (v26 + 1) s32)))) else (v25, v26, s27)) := rfl
def f_X8_odds (x0 : Int) (x1 : Int) (x2 : Int) (x3 : Int) (s0 : gMem) : gRes := (if (f_X8_outside x0 100000) = 0 then (if x1 < 1 then ((-4611686018427387904), s0) else (if 20 < x1 then ((-4611686018427387904), s0) else (if (f_X8_outside x2 401) = 0 then (if (f_X8_outside x3 2) = 0 then gb (f_X2_from (s0 61 0) s0) (fun r15 s16 => gb (f_X2_arrange (s16 59 0) s16) (fun r21 s22 => (gl3 (w_X8_odds_83 x0 x1 x2 x3 21 0 0 s22) (fun v71 v72 s73 => gl (f_X8_commonDivisor v71 x1) (fun v80 => (gl ((if x3 = 0 then v71 else x1)) (fun v83 => ((v83 / v80), s73)))))))) else ((-4611686018427387904), s0)) else ((-4611686018427387904), s0)))) else ((-4611686018427387904), s0))
theorem f_X8_odds_e (x0 : Int) (x1 : Int) (x2 : Int) (x3 : Int) (s0 : gMem) : f_X8_odds x0 x1 x2 x3 s0 = (if (f_X8_outside x0 100000) = 0 then (if x1 < 1 then ((-4611686018427387904), s0) else (if 20 < x1 then ((-4611686018427387904), s0) else (if (f_X8_outside x2 401) = 0 then (if (f_X8_outside x3 2) = 0 then gb (f_X2_from (s0 61 0) s0) (fun r15 s16 => gb (f_X2_arrange (s16 59 0) s16) (fun r21 s22 => (gl3 (w_X8_odds_83 x0 x1 x2 x3 21 0 0 s22) (fun v71 v72 s73 => gl (f_X8_commonDivisor v71 x1) (fun v80 => (gl ((if x3 = 0 then v71 else x1)) (fun v83 => ((v83 / v80), s73)))))))) else ((-4611686018427387904), s0)) else ((-4611686018427387904), s0)))) else ((-4611686018427387904), s0)) := rfl
set_option maxRecDepth 100000 in
set_option maxHeartbeats 4000000 in
theorem f_X8_odds_p (x0 : Int) (x1 : Int) (x2 : Int) (x3 : Int) (s0 : gMem) (hx0 : in32 x0) (hx1 : in32 x1) (hx2 : in32 x2) (hx3 : in32 x3) (hm_s0 : gMR lgX s0) (hpre0 : CD s0) (hpre1 : BG s0) (hpre2 : LA s0) (hpre3 : MOx s0) (hpre4 : EN s0) (hpre5 : RE s0) (hpre6 : ST s0) (hpre7 : KM s0) (hpre8 : WY s0) (hpre9 : ORx s0) (hpre10 : BEx s0) (hpre11 : KF s0) (hpre12 : LST s0) (hpre13 : LT s0) (rZ : Int) (sZ : gMem) (hres : f_X8_odds x0 x1 x2 x3 s0 = (rZ, sZ)) : (fr [32, 36, 37, 42, 43, 44, 64, 71, 72, 73, 74] s0 sZ) ∧ (gMR lgX sZ) ∧ (in64 rZ) ∧ (KM sZ) ∧ (WY sZ) ∧ (ORx sZ) ∧ (BEx sZ) ∧ (KF sZ) ∧ (LST sZ) ∧ (LT sZ) := by
  have hT := f_X8_odds_e x0 x1 x2 x3 s0
  have hf_s0 : fr [32, 36, 37, 42, 43, 44, 64, 71, 72, 73, 74] s0 s0 := fr.rf _ _
  have hKM_s0 := hpre7
  have hWY_s0 := hpre8
  have hORx_s0 := hpre9
  have hBEx_s0 := hpre10
  have hKF_s0 := hpre11
  have hLST_s0 := hpre12
  have hLT_s0 := hpre13
  have hp2 := f_X8_outside_p x0 100000 (by omega) (by omega) 
  by_cases h3 : (f_X8_outside x0 100000) = 0
  · replace hT := hT.trans (if_pos h3)
    by_cases h4 : x1 < 1
    · replace hT := hT.trans (if_pos h4)
      obtain ⟨rfl, rfl⟩ := Prod.mk.inj (hT.symm.trans hres)
      exact ⟨hf_s0, hm_s0, (by omega), hKM_s0, hWY_s0, hORx_s0, hBEx_s0, hKF_s0, hLST_s0, hLT_s0⟩
    · replace hT := hT.trans (if_neg h4)
      by_cases h5 : 20 < x1
      · replace hT := hT.trans (if_pos h5)
        obtain ⟨rfl, rfl⟩ := Prod.mk.inj (hT.symm.trans hres)
        exact ⟨hf_s0, hm_s0, (by omega), hKM_s0, hWY_s0, hORx_s0, hBEx_s0, hKF_s0, hLST_s0, hLT_s0⟩
      · replace hT := hT.trans (if_neg h5)
        have hp7 := f_X8_outside_p x2 401 (by omega) (by omega) 
        by_cases h8 : (f_X8_outside x2 401) = 0
        · replace hT := hT.trans (if_pos h8)
          have hp10 := f_X8_outside_p x3 2 (by omega) (by omega) 
          by_cases h11 : (f_X8_outside x3 2) = 0
          · replace hT := hT.trans (if_pos h11)
            have hr12 := (hm_s0 61 0).1 rfl
            have hi13 := hpre4 0
            obtain ⟨r15, s16, hs16⟩ : ∃ rr ss, (f_X2_from (s0 61 0) s0) = (rr, ss) := ⟨_, _, rfl⟩
            replace hT := gby hT hs16
            have hp17 := f_X2_from_p (s0 61 0) s0 (by omega) hm_s0 hKM_s0 hWY_s0 (by first | assumption | omega) r15 s16 hs16
            obtain ⟨hfc_s16, hm_s16, hp18, hKM_s16, hWY_s16⟩ := hp17
            have hf_s16 : fr [32, 36, 37, 42, 43, 44, 64, 71, 72, 73, 74] s0 s16 := hf_s0.call (by decide) hfc_s16
            have hORx_s16 : ORx s16 := ORx_fr hORx_s0 (fun k hk => hfc_s16 k (dj (by decide) k hk))
            have hBEx_s16 : BEx s16 := BEx_fr hBEx_s0 (fun k hk => hfc_s16 k (dj (by decide) k hk))
            have hKF_s16 : KF s16 := KF_fr hKF_s0 (fun k hk => hfc_s16 k (dj (by decide) k hk))
            have hLST_s16 : LST s16 := LST_fr hLST_s0 (fun k hk => hfc_s16 k (dj (by decide) k hk))
            have hLT_s16 : LT s16 := LT_fr hLT_s0 (fun k hk => hfc_s16 k (dj (by decide) k hk))
            have hr19 := (hm_s16 59 0).1 rfl
            obtain ⟨r21, s22, hs22⟩ : ∃ rr ss, (f_X2_arrange (s16 59 0) s16) = (rr, ss) := ⟨_, _, rfl⟩
            replace hT := gby hT hs22
            have hp23 := f_X2_arrange_p (s16 59 0) s16 (by omega) hm_s16 hORx_s16 hBEx_s16 hWY_s16 r21 s22 hs22
            obtain ⟨hfc_s22, hm_s22, hp24, hORx_s22, hBEx_s22⟩ := hp23
            have hf_s22 : fr [32, 36, 37, 42, 43, 44, 64, 71, 72, 73, 74] s0 s22 := hf_s16.call (by decide) hfc_s22
            have hKM_s22 : KM s22 := KM_fr hKM_s16 (fun k hk => hfc_s22 k (dj (by decide) k hk))
            have hWY_s22 : WY s22 := WY_fr hWY_s16 (fun k hk => hfc_s22 k (dj (by decide) k hk))
            have hKF_s22 : KF s22 := KF_fr hKF_s16 (fun k hk => hfc_s22 k (dj (by decide) k hk))
            have hLST_s22 : LST s22 := LST_fr hLST_s16 (fun k hk => hfc_s22 k (dj (by decide) k hk))
            have hLT_s22 : LT s22 := LT_fr hLT_s16 (fun k hk => hfc_s22 k (dj (by decide) k hk))
            have L45 : ∀ (n46 : Nat) (v42 : Int) (v43 : Int) (s44 : gMem), ((in32 v42) ∧ (in32 v43) ∧ (fr [32, 36, 37, 42, 43, 44, 64, 71, 72, 73, 74] s0 s44) ∧ (gMR lgX s44) ∧ (KM s44) ∧ (WY s44) ∧ (ORx s44) ∧ (BEx s44) ∧ (KF s44) ∧ (LST s44) ∧ (LT s44) ∧ (0 ≤ v43 ∧ v43 ≤ x1) ∧ (0 ≤ v42 ∧ v42 ≤ v43)) → x1 - v43 < (n46 : Int) → (∀ (w47 : Int) (w48 : Int) (s49 : gMem), (w_X8_odds_83 x0 x1 x2 x3 n46 v42 v43 s44) = (w47, w48, s49) → ((in32 w47) ∧ (in32 w48) ∧ (fr [32, 36, 37, 42, 43, 44, 64, 71, 72, 73, 74] s0 s49) ∧ (gMR lgX s49) ∧ (KM s49) ∧ (WY s49) ∧ (ORx s49) ∧ (BEx s49) ∧ (KF s49) ∧ (LST s49) ∧ (LT s49) ∧ (0 ≤ w48 ∧ w48 ≤ x1) ∧ (0 ≤ w47 ∧ w47 ≤ w48)) → (fr [32, 36, 37, 42, 43, 44, 64, 71, 72, 73, 74] s0 sZ) ∧ (gMR lgX sZ) ∧ (in64 rZ) ∧ (KM sZ) ∧ (WY sZ) ∧ (ORx sZ) ∧ (BEx sZ) ∧ (KF sZ) ∧ (LST sZ) ∧ (LT sZ)) → (fr [32, 36, 37, 42, 43, 44, 64, 71, 72, 73, 74] s0 sZ) ∧ (gMR lgX sZ) ∧ (in64 rZ) ∧ (KM sZ) ∧ (WY sZ) ∧ (ORx sZ) ∧ (BEx sZ) ∧ (KF sZ) ∧ (LST sZ) ∧ (LT sZ) := by
              intro n46; induction n46 with
              | zero =>
                intro v42 v43 s44 hq hm hk
                exfalso
                obtain ⟨hq63, hq64, hf_s44, hm_s44, hKM_s44, hWY_s44, hORx_s44, hBEx_s44, hKF_s44, hLST_s44, hLT_s44, hq65, hq66⟩ := hq
                omega
              | succ n46 ih =>
                intro v42 v43 s44 hq hm hk
                obtain ⟨hq67, hq68, hf_s44, hm_s44, hKM_s44, hWY_s44, hORx_s44, hBEx_s44, hKF_s44, hLST_s44, hLT_s44, hq69, hq70⟩ := hq
                have hT := w_X8_odds_83_s x0 x1 x2 x3 n46 v42 v43 s44
                by_cases h50 : v43 < x1
                · replace hT := hT.trans (if_pos h50)
                  obtain ⟨r52, s53, hs53⟩ : ∃ rr ss, (f_X0_drawRow (x0 + v43) x2 s44) = (rr, ss) := ⟨_, _, rfl⟩
                  replace hT := gby hT hs53
                  have hp54 := f_X0_drawRow_p (x0 + v43) x2 s44 (by omega) (by omega) hm_s44 (CD_fr hpre0 (fun k hk => hf_s44 k (dj (by decide) k hk))) (BG_fr hpre1 (fun k hk => hf_s44 k (dj (by decide) k hk))) (LA_fr hpre2 (fun k hk => hf_s44 k (dj (by decide) k hk))) (MOx_fr hpre3 (fun k hk => hf_s44 k (dj (by decide) k hk))) hKF_s44 hLST_s44 hLT_s44 (RE_fr hpre5 (fun k hk => hf_s44 k (dj (by decide) k hk))) hORx_s44 (ST_fr hpre6 (fun k hk => hf_s44 k (dj (by decide) k hk))) (by first | assumption | omega) (by first | assumption | omega) r52 s53 hs53
                  obtain ⟨hfc_s53, hm_s53, hp55, hKF_s53, hLST_s53, hLT_s53⟩ := hp54
                  have hf_s53 : fr [32, 36, 37, 42, 43, 44, 64, 71, 72, 73, 74] s0 s53 := hf_s44.call (by decide) hfc_s53
                  have hKM_s53 : KM s53 := KM_fr hKM_s44 (fun k hk => hfc_s53 k (dj (by decide) k hk))
                  have hWY_s53 : WY s53 := WY_fr hWY_s44 (fun k hk => hfc_s53 k (dj (by decide) k hk))
                  have hORx_s53 : ORx s53 := ORx_fr hORx_s44 (fun k hk => hfc_s53 k (dj (by decide) k hk))
                  have hBEx_s53 : BEx s53 := BEx_fr hBEx_s44 (fun k hk => hfc_s53 k (dj (by decide) k hk))
                  have hr56 := (hm_s53 72 0).1 rfl
                  have hi57 := hLST_s53 0
                  obtain ⟨z62, hz62, hT⟩ := gl1x hT
                  have j59 : ∀ (v60 : Int), ((in32 v60)) → z62 = v60 → (fr [32, 36, 37, 42, 43, 44, 64, 71, 72, 73, 74] s0 sZ) ∧ (gMR lgX sZ) ∧ (in64 rZ) ∧ (KM sZ) ∧ (WY sZ) ∧ (ORx sZ) ∧ (BEx sZ) ∧ (KF sZ) ∧ (LST sZ) ∧ (LT sZ) := by
                    intro v60 hq hz
                    have hq61 := hq
                    replace hT := gl1y hT hz
                    exact ih v60 (v43 + 1) s53 ⟨(by omega), (by omega), hf_s53, hm_s53, hKM_s53, hWY_s53, hORx_s53, hBEx_s53, hKF_s53, hLST_s53, hLT_s53, (by first | assumption | omega), (by first | assumption | omega)⟩ (by omega) (fun w47 w48 s49 hw hi => hk w47 w48 s49 (hT.trans hw) hi)
                  replace hT := hz62
                  by_cases h58 : (s53 72 0) = 65535
                  · replace hT := hT.trans (if_pos h58)
                    exact j59 (v42 + 1) (by omega) hT
                  · replace hT := hT.trans (if_neg h58)
                    exact j59 v42 (by omega) hT
                · replace hT := hT.trans (if_neg h50)
                  exact hk v42 v43 s44 hT ⟨(by omega), (by omega), hf_s44, hm_s44, hKM_s44, hWY_s44, hORx_s44, hBEx_s44, hKF_s44, hLST_s44, hLT_s44, (by first | assumption | omega), (by first | assumption | omega)⟩
            refine L45 21 0 0 s22 ⟨(by omega), (by omega), hf_s22, hm_s22, hKM_s22, hWY_s22, hORx_s22, hBEx_s22, hKF_s22, hLST_s22, hLT_s22, (by first | assumption | omega), (by first | assumption | omega)⟩ (by omega) (fun v71 v72 s73 hw hq => ?_)
            obtain ⟨hq74, hq75, hf_s73, hm_s73, hKM_s73, hWY_s73, hORx_s73, hBEx_s73, hKF_s73, hLST_s73, hLT_s73, hq76, hq77⟩ := hq
            replace hT := gl3y hT hw
            have hp79 := f_X8_commonDivisor_p v71 x1 (by omega) (by omega) (by first | assumption | omega) (by first | assumption | omega)
            obtain ⟨v80, hv80, hT⟩ := glx hT
            obtain ⟨z88, hz88, hT⟩ := gl1x hT
            have j82 : ∀ (v83 : Int), ((in32 v83)) → z88 = v83 → (fr [32, 36, 37, 42, 43, 44, 64, 71, 72, 73, 74] s0 sZ) ∧ (gMR lgX sZ) ∧ (in64 rZ) ∧ (KM sZ) ∧ (WY sZ) ∧ (ORx sZ) ∧ (BEx sZ) ∧ (KF sZ) ∧ (LST sZ) ∧ (LT sZ) := by
              intro v83 hq hz
              have hq87 := hq
              replace hT := gl1y hT hz
              have hd84 : (0 : Int) ≤ v83 := (by omega)
              have hd85 : (0 : Int) < v80 := (by omega)
              have hb86 := dv_rg hd84 hd85
              obtain ⟨rfl, rfl⟩ := Prod.mk.inj (hT.symm.trans hres)
              exact ⟨hf_s73, hm_s73, (by omega), hKM_s73, hWY_s73, hORx_s73, hBEx_s73, hKF_s73, hLST_s73, hLT_s73⟩
            replace hT := hz88
            by_cases h81 : x3 = 0
            · replace hT := hT.trans (if_pos h81)
              exact j82 v71 (by omega) hT
            · replace hT := hT.trans (if_neg h81)
              exact j82 x1 (by omega) hT
          · replace hT := hT.trans (if_neg h11)
            obtain ⟨rfl, rfl⟩ := Prod.mk.inj (hT.symm.trans hres)
            exact ⟨hf_s0, hm_s0, (by omega), hKM_s0, hWY_s0, hORx_s0, hBEx_s0, hKF_s0, hLST_s0, hLT_s0⟩
        · replace hT := hT.trans (if_neg h8)
          obtain ⟨rfl, rfl⟩ := Prod.mk.inj (hT.symm.trans hres)
          exact ⟨hf_s0, hm_s0, (by omega), hKM_s0, hWY_s0, hORx_s0, hBEx_s0, hKF_s0, hLST_s0, hLT_s0⟩
  · replace hT := hT.trans (if_neg h3)
    obtain ⟨rfl, rfl⟩ := Prod.mk.inj (hT.symm.trans hres)
    exact ⟨hf_s0, hm_s0, (by omega), hKM_s0, hWY_s0, hORx_s0, hBEx_s0, hKF_s0, hLST_s0, hLT_s0⟩
set_option maxRecDepth 100000 in
set_option maxHeartbeats 4000000 in
theorem c_X8_odds (l : Launch) (D : va_G) (a : Nat → Nat) (cI cJ cS cT : ClassId) (s0 : gMem) (x0 : Int) (x1 : Int) (x2 : Int) (x3 : Int) (hx0 : in32 x0) (hx1 : in32 x1) (hx2 : in32 x2) (hx3 : in32 x3) (hpre0 : CD s0) (hpre1 : BG s0) (hpre2 : LA s0) (hpre3 : MOx s0) (hpre4 : EN s0) (hpre5 : RE s0) (hpre6 : ST s0) (hpre7 : KM s0) (hpre8 : WY s0) (hpre9 : ORx s0) (hpre10 : BEx s0) (hpre11 : KF s0) (hpre12 : LST s0) (hpre13 : LT s0) : gC l yX8_odds cX8_odds 7 (some .long) 6 384 D vwCl (gT cI cJ cS cT) (wdX a cI cJ cS cT) lgX kJ in64 [.ref (a 0), gI x0, gI x1, gI x2, gI x3] s0 (f_X8_odds x0 x1 x2 x3 s0) := by
  refine gC_of (by decide +kernel) (hwdX a cI cJ cS cT) (Nat.le_of_ble_eq_true rfl) ?_
  intro A p e R s m args below meth c hR E
  subst hR
  have hT := f_X8_odds_e x0 x1 x2 x3 s0
  have hf_s0 : fr [32, 36, 37, 42, 43, 44, 64, 71, 72, 73, 74] s0 s0 := fr.rf _ _
  refine k_lv0 (lv' := [(0, .ref (a 0)), (1, gI x0), (2, gI x1), (3, gI x2), (4, gI x3)]) rfl ?_
  refine k_mr (fun hm_s0 => ?_)
  have hKM_s0 := hpre7
  have hWY_s0 := hpre8
  have hORx_s0 := hpre9
  have hBEx_s0 := hpre10
  have hKF_s0 := hpre11
  have hLST_s0 := hpre12
  have hLT_s0 := hpre13
  refine k_iloadn (pc := 0) E 1 dX8_odds_0 rfl rfl ?_
  refine k_ldc (pc := 1) (n := 100000) E dX8_odds_1 wm_696 (by decide) ?_
  refine k_mr (fun hm_s0 => ?_)
  refine k_callS (pc := 3) (np := 2) (As := [gI x0, gI 100000]) (st := []) E (c_X8_outside l D a cI cJ cS cT s0 x0 100000 (by omega) (by omega)) wm_310 wm_1 wm_308 wm_309 (by decide +kernel) ⟨by decide, by decide⟩ rfl (Nat.le_of_ble_eq_true rfl) dX8_odds_3 (ro_kk (fun hr1 => ?_))
  have hp2 := f_X8_outside_p x0 100000 (by omega) (by omega) 
  refine k_st (st' := [gI (f_X8_outside x0 100000)]) rfl ?_
  by_cases h3 : (f_X8_outside x0 100000) = 0
  · replace hT := hT.trans (if_pos h3)
    refine k_if_ne_f (pc := 6) (tgt := 39) E (by omega) dX8_odds_6 (by decide) h3 ?_
    refine k_iloadn (pc := 9) E 2 dX8_odds_9 rfl rfl ?_
    refine k_iconst (pc := 10) E dX8_odds_10 ?_
    by_cases h4 : x1 < 1
    · replace hT := hT.trans (if_pos h4)
      refine k_icmp_lt_t (pc := 11) (tgt := 39) E (by omega) (by omega) dX8_odds_11 (by decide) h4 ?_
      refine k_ldc2 (pc := 39) (n := (-4611686018427387904)) E dX8_odds_39 wm_562 (by decide) ?_
      exact k_rho hT (k_lret (pc := 42) E dX8_odds_42 (by omega))
    · replace hT := hT.trans (if_neg h4)
      refine k_icmp_lt_f (pc := 11) (tgt := 39) E (by omega) (by omega) dX8_odds_11 (by decide) h4 ?_
      refine k_iloadn (pc := 14) E 2 dX8_odds_14 rfl rfl ?_
      refine k_bipush (pc := 15) E dX8_odds_15 (by decide) ?_
      by_cases h5 : 20 < x1
      · replace hT := hT.trans (if_pos h5)
        refine k_icmp_gt_t (pc := 17) (tgt := 39) E (by omega) (by omega) dX8_odds_17 (by decide) h5 ?_
        refine k_ldc2 (pc := 39) (n := (-4611686018427387904)) E dX8_odds_39 wm_562 (by decide) ?_
        exact k_rho hT (k_lret (pc := 42) E dX8_odds_42 (by omega))
      · replace hT := hT.trans (if_neg h5)
        refine k_icmp_gt_f (pc := 17) (tgt := 39) E (by omega) (by omega) dX8_odds_17 (by decide) h5 ?_
        refine k_iloadn (pc := 20) E 3 dX8_odds_20 rfl rfl ?_
        refine k_sipush (pc := 21) E dX8_odds_21 (by decide) ?_
        refine k_mr (fun hm_s0 => ?_)
        refine k_callS (pc := 24) (np := 2) (As := [gI x2, gI 401]) (st := []) E (c_X8_outside l D a cI cJ cS cT s0 x2 401 (by omega) (by omega)) wm_310 wm_1 wm_308 wm_309 (by decide +kernel) ⟨by decide, by decide⟩ rfl (Nat.le_of_ble_eq_true rfl) dX8_odds_24 (ro_kk (fun hr6 => ?_))
        have hp7 := f_X8_outside_p x2 401 (by omega) (by omega) 
        refine k_st (st' := [gI (f_X8_outside x2 401)]) rfl ?_
        by_cases h8 : (f_X8_outside x2 401) = 0
        · replace hT := hT.trans (if_pos h8)
          refine k_if_ne_f (pc := 27) (tgt := 39) E (by omega) dX8_odds_27 (by decide) h8 ?_
          refine k_iload (pc := 30) E 4 dX8_odds_30 rfl ?_
          refine k_iconst (pc := 32) E dX8_odds_32 ?_
          refine k_mr (fun hm_s0 => ?_)
          refine k_callS (pc := 33) (np := 2) (As := [gI x3, gI 2]) (st := []) E (c_X8_outside l D a cI cJ cS cT s0 x3 2 (by omega) (by omega)) wm_310 wm_1 wm_308 wm_309 (by decide +kernel) ⟨by decide, by decide⟩ rfl (Nat.le_of_ble_eq_true rfl) dX8_odds_33 (ro_kk (fun hr9 => ?_))
          have hp10 := f_X8_outside_p x3 2 (by omega) (by omega) 
          refine k_st (st' := [gI (f_X8_outside x3 2)]) rfl ?_
          by_cases h11 : (f_X8_outside x3 2) = 0
          · replace hT := hT.trans (if_pos h11)
            refine k_if_eq_t (pc := 36) (tgt := 43) E (by omega) dX8_odds_36 (by decide) h11 ?_
            refine k_aloadn (pc := 43) E 0 dX8_odds_43 rfl rfl ?_
            refine k_getf (pc := 44) (q0 := 0) (f := 3) (v := .ref (a 5)) E inX8 rfl rfl (by decide) wm_275 rfl rfl dX8_odds_44 ?_
            refine k_aloadn (pc := 47) E 0 dX8_odds_47 rfl rfl ?_
            refine k_getf (pc := 48) (q0 := 0) (f := 2) (v := .ref (a 3)) E inX8 rfl rfl (by decide) wm_274 rfl rfl dX8_odds_48 ?_
            refine k_getf (pc := 51) (q0 := 3) (f := 0) (v := .ref (a 4)) E inX4 rfl rfl (by decide) wm_149 rfl rfl dX8_odds_51 ?_
            refine k_getfI (pc := 54) (q0 := 4) (f := 4) (k := 61) E inX6 rfl rfl (by decide) wm_116 rfl rfl rfl dX8_odds_54 (fun hr12 => ?_)
            have hi13 := hpre4 0
            refine k_mr (fun hm_s0 => ?_)
            refine k_callV (pc := 57) (np := 1) (As := [gI (s0 61 0)]) (st := []) (q0 := 5) E (c_X2_from l D a cI cJ cS cT s0 (s0 61 0) (by omega) hKM_s0 hWY_s0 (by first | assumption | omega)) wm_566 wm_7 wm_563 wm_564 wm_565 (by decide +kernel) rfl rfl ⟨by decide, by decide⟩ rfl (Nat.le_of_ble_eq_true rfl) dX8_odds_57 (fun r15 s16 hs16 hr14 => ?_)
            replace hT := gby hT hs16
            have hp17 := f_X2_from_p (s0 61 0) s0 (by omega) hm_s0 hKM_s0 hWY_s0 (by first | assumption | omega) r15 s16 hs16
            obtain ⟨hfc_s16, hm_s16, hp18, hKM_s16, hWY_s16⟩ := hp17
            have hf_s16 : fr [32, 36, 37, 42, 43, 44, 64, 71, 72, 73, 74] s0 s16 := hf_s0.call (by decide) hfc_s16
            have hORx_s16 : ORx s16 := ORx_fr hORx_s0 (fun k hk => hfc_s16 k (dj (by decide) k hk))
            have hBEx_s16 : BEx s16 := BEx_fr hBEx_s0 (fun k hk => hfc_s16 k (dj (by decide) k hk))
            have hKF_s16 : KF s16 := KF_fr hKF_s0 (fun k hk => hfc_s16 k (dj (by decide) k hk))
            have hLST_s16 : LST s16 := LST_fr hLST_s0 (fun k hk => hfc_s16 k (dj (by decide) k hk))
            have hLT_s16 : LT s16 := LT_fr hLT_s0 (fun k hk => hfc_s16 k (dj (by decide) k hk))
            refine k_st (st' := []) rfl ?_
            refine k_aloadn (pc := 60) E 0 dX8_odds_60 rfl rfl ?_
            refine k_getf (pc := 61) (q0 := 0) (f := 3) (v := .ref (a 5)) E inX8 rfl rfl (by decide) wm_275 rfl rfl dX8_odds_61 ?_
            refine k_aloadn (pc := 64) E 0 dX8_odds_64 rfl rfl ?_
            refine k_getf (pc := 65) (q0 := 0) (f := 2) (v := .ref (a 3)) E inX8 rfl rfl (by decide) wm_274 rfl rfl dX8_odds_65 ?_
            refine k_getf (pc := 68) (q0 := 3) (f := 0) (v := .ref (a 4)) E inX4 rfl rfl (by decide) wm_149 rfl rfl dX8_odds_68 ?_
            refine k_getfI (pc := 71) (q0 := 4) (f := 2) (k := 59) E inX6 rfl rfl (by decide) wm_109 rfl rfl rfl dX8_odds_71 (fun hr19 => ?_)
            refine k_mr (fun hm_s16 => ?_)
            refine k_callV (pc := 74) (np := 1) (As := [gI (s16 59 0)]) (st := []) (q0 := 5) E (c_X2_arrange l D a cI cJ cS cT s16 (s16 59 0) (by omega) hORx_s16 hBEx_s16 hWY_s16) wm_663 wm_7 wm_715 wm_661 wm_662 (by decide +kernel) rfl rfl ⟨by decide, by decide⟩ rfl (Nat.le_of_ble_eq_true rfl) dX8_odds_74 (fun r21 s22 hs22 hr20 => ?_)
            replace hT := gby hT hs22
            have hp23 := f_X2_arrange_p (s16 59 0) s16 (by omega) hm_s16 hORx_s16 hBEx_s16 hWY_s16 r21 s22 hs22
            obtain ⟨hfc_s22, hm_s22, hp24, hORx_s22, hBEx_s22⟩ := hp23
            have hf_s22 : fr [32, 36, 37, 42, 43, 44, 64, 71, 72, 73, 74] s0 s22 := hf_s16.call (by decide) hfc_s22
            have hKM_s22 : KM s22 := KM_fr hKM_s16 (fun k hk => hfc_s22 k (dj (by decide) k hk))
            have hWY_s22 : WY s22 := WY_fr hWY_s16 (fun k hk => hfc_s22 k (dj (by decide) k hk))
            have hKF_s22 : KF s22 := KF_fr hKF_s16 (fun k hk => hfc_s22 k (dj (by decide) k hk))
            have hLST_s22 : LST s22 := LST_fr hLST_s16 (fun k hk => hfc_s22 k (dj (by decide) k hk))
            have hLT_s22 : LT s22 := LT_fr hLT_s16 (fun k hk => hfc_s22 k (dj (by decide) k hk))
            refine k_st (st' := []) rfl ?_
            refine k_iconst (pc := 77) E dX8_odds_77 ?_
            refine k_istore (pc := 78) (lv' := [(5, gI 0), (0, .ref (a 0)), (1, gI x0), (2, gI x1), (3, gI x2), (4, gI x3)]) E dX8_odds_78 (by decide) rfl ?_
            refine k_iconst (pc := 80) E dX8_odds_80 ?_
            refine k_istore (pc := 81) (lv' := [(6, gI 0), (5, gI 0), (0, .ref (a 0)), (1, gI x0), (2, gI x1), (3, gI x2), (4, gI x3)]) E dX8_odds_81 (by decide) rfl ?_
            have L45 : ∀ (n46 : Nat) (v42 : Int) (v43 : Int) (s44 : gMem), ((in32 v42) ∧ (in32 v43) ∧ (fr [32, 36, 37, 42, 43, 44, 64, 71, 72, 73, 74] s0 s44) ∧ (KM s44) ∧ (WY s44) ∧ (ORx s44) ∧ (BEx s44) ∧ (KF s44) ∧ (LST s44) ∧ (LT s44) ∧ (0 ≤ v43 ∧ v43 ≤ x1) ∧ (0 ≤ v42 ∧ v42 ≤ v43)) → x1 - v43 < (n46 : Int) → (∀ (w47 : Int) (w48 : Int) (s49 : gMem), (w_X8_odds_83 x0 x1 x2 x3 n46 v42 v43 s44) = (w47, w48, s49) → ((in32 w47) ∧ (in32 w48) ∧ (fr [32, 36, 37, 42, 43, 44, 64, 71, 72, 73, 74] s0 s49) ∧ (KM s49) ∧ (WY s49) ∧ (ORx s49) ∧ (BEx s49) ∧ (KF s49) ∧ (LST s49) ∧ (LT s49) ∧ (0 ≤ w48 ∧ w48 ≤ x1) ∧ (0 ≤ w47 ∧ w47 ≤ w48)) → gK D vwCl (wdX a cI cJ cS cT) lgX A p l e { frames := 6, cells := 0, slots := 0, locals := 384 } s m args below meth c 7 (gQQ D vwCl (wdX a cI cJ cS cT) lgX A kJ in64 below args s) (f_X8_odds x0 x1 x2 x3 s0) s49 129 [(2, gI x1), (4, gI x3), (5, gI w47)] []) → gK D vwCl (wdX a cI cJ cS cT) lgX A p l e { frames := 6, cells := 0, slots := 0, locals := 384 } s m args below meth c 7 (gQQ D vwCl (wdX a cI cJ cS cT) lgX A kJ in64 below args s) (f_X8_odds x0 x1 x2 x3 s0) s44 83 [(0, .ref (a 0)), (1, gI x0), (2, gI x1), (3, gI x2), (4, gI x3), (5, gI v42), (6, gI v43)] [] := by
              intro n46; induction n46 with
              | zero =>
                intro v42 v43 s44 hq hm hk
                exfalso
                obtain ⟨hq63, hq64, hf_s44, hKM_s44, hWY_s44, hORx_s44, hBEx_s44, hKF_s44, hLST_s44, hLT_s44, hq65, hq66⟩ := hq
                omega
              | succ n46 ih =>
                intro v42 v43 s44 hq hm hk
                obtain ⟨hq67, hq68, hf_s44, hKM_s44, hWY_s44, hORx_s44, hBEx_s44, hKF_s44, hLST_s44, hLT_s44, hq69, hq70⟩ := hq
                have hT := w_X8_odds_83_s x0 x1 x2 x3 n46 v42 v43 s44
                refine k_iload (pc := 83) E 6 dX8_odds_83 rfl ?_
                refine k_iloadn (pc := 85) E 2 dX8_odds_85 rfl rfl ?_
                by_cases h50 : v43 < x1
                · replace hT := hT.trans (if_pos h50)
                  refine k_icmp_ge_f (pc := 86) (tgt := 129) E (by omega) (by omega) dX8_odds_86 (by decide) h50 ?_
                  refine k_aloadn (pc := 89) E 0 dX8_odds_89 rfl rfl ?_
                  refine k_getf (pc := 90) (q0 := 0) (f := 5) (v := .ref (a 7)) E inX8 rfl rfl (by decide) wm_277 rfl rfl dX8_odds_90 ?_
                  refine k_iloadn (pc := 93) E 1 dX8_odds_93 rfl rfl ?_
                  refine k_iload (pc := 94) E 6 dX8_odds_94 rfl ?_
                  refine k_iadd (pc := 96) E dX8_odds_96 ?_
                  refine k_iloadn (pc := 97) E 3 dX8_odds_97 rfl rfl ?_
                  refine k_aloadn (pc := 98) E 0 dX8_odds_98 rfl rfl ?_
                  refine k_getf (pc := 99) (q0 := 0) (f := 3) (v := .ref (a 5)) E inX8 rfl rfl (by decide) wm_275 rfl rfl dX8_odds_99 ?_
                  refine k_getf (pc := 102) (q0 := 5) (f := 2) (v := .ref (a 43)) E inX2 rfl rfl (by decide) wm_177 rfl rfl dX8_odds_102 ?_
                  refine k_mr (fun hm_s44 => ?_)
                  refine k_callV (pc := 105) (np := 3) (As := [gI (x0 + v43), gI x2, .ref (a 43)]) (st := []) (q0 := 7) E (c_X0_drawRow l D a cI cJ cS cT s44 (x0 + v43) x2 (by omega) (by omega) (CD_fr hpre0 (fun k hk => hf_s44 k (dj (by decide) k hk))) (BG_fr hpre1 (fun k hk => hf_s44 k (dj (by decide) k hk))) (LA_fr hpre2 (fun k hk => hf_s44 k (dj (by decide) k hk))) (MOx_fr hpre3 (fun k hk => hf_s44 k (dj (by decide) k hk))) hKF_s44 hLST_s44 hLT_s44 (RE_fr hpre5 (fun k hk => hf_s44 k (dj (by decide) k hk))) hORx_s44 (ST_fr hpre6 (fun k hk => hf_s44 k (dj (by decide) k hk))) (by first | assumption | omega) (by first | assumption | omega)) wm_719 wm_9 wm_716 wm_717 wm_718 (by decide +kernel) rfl rfl ⟨by decide, by decide⟩ rfl (Nat.le_of_ble_eq_true rfl) dX8_odds_105 (fun r52 s53 hs53 hr51 => ?_)
                  replace hT := gby hT hs53
                  have hp54 := f_X0_drawRow_p (x0 + v43) x2 s44 (by omega) (by omega) hm_s44 (CD_fr hpre0 (fun k hk => hf_s44 k (dj (by decide) k hk))) (BG_fr hpre1 (fun k hk => hf_s44 k (dj (by decide) k hk))) (LA_fr hpre2 (fun k hk => hf_s44 k (dj (by decide) k hk))) (MOx_fr hpre3 (fun k hk => hf_s44 k (dj (by decide) k hk))) hKF_s44 hLST_s44 hLT_s44 (RE_fr hpre5 (fun k hk => hf_s44 k (dj (by decide) k hk))) hORx_s44 (ST_fr hpre6 (fun k hk => hf_s44 k (dj (by decide) k hk))) (by first | assumption | omega) (by first | assumption | omega) r52 s53 hs53
                  obtain ⟨hfc_s53, hm_s53, hp55, hKF_s53, hLST_s53, hLT_s53⟩ := hp54
                  have hf_s53 : fr [32, 36, 37, 42, 43, 44, 64, 71, 72, 73, 74] s0 s53 := hf_s44.call (by decide) hfc_s53
                  have hKM_s53 : KM s53 := KM_fr hKM_s44 (fun k hk => hfc_s53 k (dj (by decide) k hk))
                  have hWY_s53 : WY s53 := WY_fr hWY_s44 (fun k hk => hfc_s53 k (dj (by decide) k hk))
                  have hORx_s53 : ORx s53 := ORx_fr hORx_s44 (fun k hk => hfc_s53 k (dj (by decide) k hk))
                  have hBEx_s53 : BEx s53 := BEx_fr hBEx_s44 (fun k hk => hfc_s53 k (dj (by decide) k hk))
                  refine k_st (st' := []) rfl ?_
                  refine k_aloadn (pc := 108) E 0 dX8_odds_108 rfl rfl ?_
                  refine k_getf (pc := 109) (q0 := 0) (f := 5) (v := .ref (a 7)) E inX8 rfl rfl (by decide) wm_277 rfl rfl dX8_odds_109 ?_
                  refine k_getfI (pc := 112) (q0 := 7) (f := 2) (k := 72) E inX0 rfl rfl (by decide) wm_234 rfl rfl rfl dX8_odds_112 (fun hr56 => ?_)
                  have hi57 := hLST_s53 0
                  refine k_ldc (pc := 115) (n := 65535) E dX8_odds_115 wm_732 (by decide) ?_
                  obtain ⟨z62, hz62, hT⟩ := gl1x hT
                  have j59 : ∀ (v60 : Int), ((in32 v60)) → z62 = v60 → gK D vwCl (wdX a cI cJ cS cT) lgX A p l e { frames := 6, cells := 0, slots := 0, locals := 384 } s m args below meth c 7 (gQQ D vwCl (wdX a cI cJ cS cT) lgX A kJ in64 below args s) (f_X8_odds x0 x1 x2 x3 s0) s53 123 [(0, .ref (a 0)), (1, gI x0), (2, gI x1), (3, gI x2), (4, gI x3), (5, gI v60), (6, gI v43)] [] := by
                    intro v60 hq hz
                    have hq61 := hq
                    replace hT := gl1y hT hz
                    refine k_iinc (pc := 123) (lv' := [(6, gI (v43 + 1)), (0, .ref (a 0)), (1, gI x0), (2, gI x1), (3, gI x2), (4, gI x3), (5, gI v60)]) E 6 dX8_odds_123 rfl (by decide) rfl ?_
                    refine k_goto (pc := 126) (tgt := 83) E dX8_odds_126 (by decide) ?_
                    refine k_lv (lv' := [(0, .ref (a 0)), (1, gI x0), (2, gI x1), (3, gI x2), (4, gI x3), (5, gI v60), (6, gI (v43 + 1))]) [1, 2, 3, 4, 5, 6, 0] rfl ?_
                    exact ih v60 (v43 + 1) s53 ⟨(by omega), (by omega), hf_s53, hKM_s53, hWY_s53, hORx_s53, hBEx_s53, hKF_s53, hLST_s53, hLT_s53, (by first | assumption | omega), (by first | assumption | omega)⟩ (by omega) (fun w47 w48 s49 hw hi => hk w47 w48 s49 (hT.trans hw) hi)
                  replace hT := hz62
                  by_cases h58 : (s53 72 0) = 65535
                  · replace hT := hT.trans (if_pos h58)
                    refine k_icmp_ne_f (pc := 117) (tgt := 123) E (by omega) (by omega) dX8_odds_117 (by decide) h58 ?_
                    refine k_iinc (pc := 120) (lv' := [(5, gI (v42 + 1)), (0, .ref (a 0)), (1, gI x0), (2, gI x1), (3, gI x2), (4, gI x3), (6, gI v43)]) E 5 dX8_odds_120 rfl (by decide) rfl ?_
                    refine k_lv (lv' := [(0, .ref (a 0)), (1, gI x0), (2, gI x1), (3, gI x2), (4, gI x3), (5, gI (v42 + 1)), (6, gI v43)]) [1, 2, 3, 4, 5, 0, 6] rfl ?_
                    exact j59 (v42 + 1) (by omega) hT
                  · replace hT := hT.trans (if_neg h58)
                    refine k_icmp_ne_t (pc := 117) (tgt := 123) E (by omega) (by omega) dX8_odds_117 (by decide) h58 ?_
                    exact j59 v42 (by omega) hT
                · replace hT := hT.trans (if_neg h50)
                  refine k_icmp_ge_t (pc := 86) (tgt := 129) E (by omega) (by omega) dX8_odds_86 (by decide) h50 ?_
                  refine k_lv (lv' := [(2, gI x1), (4, gI x3), (5, gI v42)]) [2, 4, 5] rfl ?_
                  exact hk v42 v43 s44 hT ⟨(by omega), (by omega), hf_s44, hKM_s44, hWY_s44, hORx_s44, hBEx_s44, hKF_s44, hLST_s44, hLT_s44, (by first | assumption | omega), (by first | assumption | omega)⟩
            refine k_lv (lv' := [(0, .ref (a 0)), (1, gI x0), (2, gI x1), (3, gI x2), (4, gI x3), (5, gI 0), (6, gI 0)]) [2, 3, 4, 5, 6, 1, 0] rfl ?_
            refine L45 21 0 0 s22 ⟨(by omega), (by omega), hf_s22, hKM_s22, hWY_s22, hORx_s22, hBEx_s22, hKF_s22, hLST_s22, hLT_s22, (by first | assumption | omega), (by first | assumption | omega)⟩ (by omega) (fun v71 v72 s73 hw hq => ?_)
            obtain ⟨hq74, hq75, hf_s73, hKM_s73, hWY_s73, hORx_s73, hBEx_s73, hKF_s73, hLST_s73, hLT_s73, hq76, hq77⟩ := hq
            replace hT := gl3y hT hw
            refine k_iload (pc := 129) E 2 dX8_odds_129 rfl ?_
            refine k_iloadn (pc := 131) E 0 dX8_odds_131 rfl rfl ?_
            refine k_mr (fun hm_s73 => ?_)
            refine k_callS (pc := 132) (np := 2) (As := [gI v71, gI x1]) (st := []) E (c_X8_commonDivisor l D a cI cJ cS cT s73 v71 x1 (by omega) (by omega) (by first | assumption | omega) (by first | assumption | omega)) wm_735 wm_1 wm_733 wm_734 (by decide +kernel) ⟨by decide, by decide⟩ rfl (Nat.le_of_ble_eq_true rfl) dX8_odds_132 (ro_kk (fun hr78 => ?_))
            have hp79 := f_X8_commonDivisor_p v71 x1 (by omega) (by omega) (by first | assumption | omega) (by first | assumption | omega)
            refine k_st (st' := [gI (f_X8_commonDivisor v71 x1)]) rfl ?_
            obtain ⟨v80, hv80, hT⟩ := glx hT
            refine k_st (st' := [gI v80]) (by rw [hv80]) ?_
            refine k_istore (pc := 135) (lv' := [(6, gI v80), (2, gI x1), (4, gI x3), (5, gI v71)]) E dX8_odds_135 (by decide) rfl ?_
            refine k_iload (pc := 137) E 2 dX8_odds_137 rfl ?_
            obtain ⟨z88, hz88, hT⟩ := gl1x hT
            have j82 : ∀ (v83 : Int), ((in32 v83)) → z88 = v83 → gK D vwCl (wdX a cI cJ cS cT) lgX A p l e { frames := 6, cells := 0, slots := 0, locals := 384 } s m args below meth c 7 (gQQ D vwCl (wdX a cI cJ cS cT) lgX A kJ in64 below args s) (f_X8_odds x0 x1 x2 x3 s0) s73 148 [(6, gI v80)] [gI v83] := by
              intro v83 hq hz
              have hq87 := hq
              replace hT := gl1y hT hz
              refine k_iload (pc := 148) E 0 dX8_odds_148 rfl ?_
              have hd84 : (0 : Int) ≤ v83 := (by omega)
              have hd85 : (0 : Int) < v80 := (by omega)
              refine k_idivN (pc := 150) E (by omega) (by omega) hd84 hd85 dX8_odds_150 ?_
              have hb86 := dv_rg hd84 hd85
              refine k_i2l (pc := 151) E dX8_odds_151 (by omega) ?_
              exact k_rho hT (k_lret (pc := 152) E dX8_odds_152 (by omega))
            replace hT := hz88
            by_cases h81 : x3 = 0
            · replace hT := hT.trans (if_pos h81)
              refine k_if_ne_f (pc := 139) (tgt := 147) E (by omega) dX8_odds_139 (by decide) h81 ?_
              refine k_iload (pc := 142) E 3 dX8_odds_142 rfl ?_
              refine k_goto (pc := 144) (tgt := 148) E dX8_odds_144 (by decide) ?_
              refine k_lv (lv' := [(6, gI v80)]) [0] rfl ?_
              exact j82 v71 (by omega) hT
            · replace hT := hT.trans (if_neg h81)
              refine k_if_ne_t (pc := 139) (tgt := 147) E (by omega) dX8_odds_139 (by decide) h81 ?_
              refine k_iloadn (pc := 147) E 1 dX8_odds_147 rfl rfl ?_
              refine k_lv (lv' := [(6, gI v80)]) [0] rfl ?_
              exact j82 x1 (by omega) hT
          · replace hT := hT.trans (if_neg h11)
            refine k_if_eq_f (pc := 36) (tgt := 43) E (by omega) dX8_odds_36 (by decide) h11 ?_
            refine k_ldc2 (pc := 39) (n := (-4611686018427387904)) E dX8_odds_39 wm_562 (by decide) ?_
            exact k_rho hT (k_lret (pc := 42) E dX8_odds_42 (by omega))
        · replace hT := hT.trans (if_neg h8)
          refine k_if_ne_t (pc := 27) (tgt := 39) E (by omega) dX8_odds_27 (by decide) h8 ?_
          refine k_ldc2 (pc := 39) (n := (-4611686018427387904)) E dX8_odds_39 wm_562 (by decide) ?_
          exact k_rho hT (k_lret (pc := 42) E dX8_odds_42 (by omega))
  · replace hT := hT.trans (if_neg h3)
    refine k_if_ne_t (pc := 6) (tgt := 39) E (by omega) dX8_odds_6 (by decide) h3 ?_
    refine k_ldc2 (pc := 39) (n := (-4611686018427387904)) E dX8_odds_39 wm_562 (by decide) ?_
    exact k_rho hT (k_lret (pc := 42) E dX8_odds_42 (by omega))
