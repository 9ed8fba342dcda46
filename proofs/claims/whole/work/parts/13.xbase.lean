/-! rows of fills and copies; what is held true of the class's memory -/
theorem dj {ids W : List Nat} (h : ids.all (fun k => decide (k ∉ W)) = true) : ∀ k ∈ ids, k ∉ W := fun k hk => of_decide_eq_true (List.all_eq_true.mp h k hk)
def mfill (s : gMem) (k : Nat) (n v : Int) : gMem := fun k' => if k' = k then (fun i => if 0 ≤ i ∧ i < n then v else s k i) else s k'
def mcpy (s : gMem) (k0 : Nat) (sp : Int) (k1 : Nat) (dp n : Int) : gMem := fun k' => if k' = k1 then (fun i => if dp ≤ i ∧ i < dp + n then s k0 (sp + (i - dp)) else s k1 i) else s k'
theorem mfill_at (s : gMem) (k : Nat) (n v i : Int) : mfill s k n v k i = if 0 ≤ i ∧ i < n then v else s k i := by simp [mfill]
theorem mfill_ne (s : gMem) (k : Nat) (n v : Int) {k' : Nat} (i : Int) (h : k' ≠ k) : mfill s k n v k' i = s k' i := by simp [mfill, h]
theorem mcpy_at (s : gMem) (k0 : Nat) (sp : Int) (k1 : Nat) (dp n i : Int) : mcpy s k0 sp k1 dp n k1 i = if dp ≤ i ∧ i < dp + n then s k0 (sp + (i - dp)) else s k1 i := by simp [mcpy]
theorem mcpy_ne (s : gMem) (k0 : Nat) (sp : Int) (k1 : Nat) (dp n : Int) {k' : Nat} (i : Int) (h : k' ≠ k1) : mcpy s k0 sp k1 dp n k' i = s k' i := by simp [mcpy, h]
theorem fr.fill {W : List Nat} {s s' : gMem} {k : Nat} {n v : Int} (h : fr W s s') (hk : k ∈ W) : fr W s (mfill s' k n v) := fun q hq => by
  have hne : q ≠ k := fun e => hq (e ▸ hk)
  rw [← h q hq]
  simp [mfill, hne]
theorem fr.cpy {W : List Nat} {s s' : gMem} {k0 k1 : Nat} {sp dp n : Int} (h : fr W s s') (hk : k1 ∈ W) : fr W s (mcpy s' k0 sp k1 dp n) := fun q hq => by
  have hne : q ≠ k1 := fun e => hq (e ▸ hk)
  rw [← h q hq]
  simp [mcpy, hne]
theorem gMR.fill32 {lg : Nat → Bool} {s : gMem} {k : Nat} {n v : Int} (h : gMR lg s) (hk : lg k = false) (hv : in32 v) : gMR lg (mfill s k n v) := by
  intro k' i
  by_cases e : k' = k
  · subst e
    refine ⟨fun _ => ?_, fun q => absurd (hk.symm.trans q) (by decide)⟩
    rw [mfill_at]
    split
    · exact hv
    · exact (h _ _).1 hk
  · rw [mfill_ne _ _ _ _ _ e]
    exact h k' i
theorem gMR.fill64 {lg : Nat → Bool} {s : gMem} {k : Nat} {n v : Int} (h : gMR lg s) (hk : lg k = true) (hv : in64 v) : gMR lg (mfill s k n v) := by
  intro k' i
  by_cases e : k' = k
  · subst e
    refine ⟨fun q => absurd (hk.symm.trans q) (by decide), fun _ => ?_⟩
    rw [mfill_at]
    split
    · exact hv
    · exact (h _ _).2 hk
  · rw [mfill_ne _ _ _ _ _ e]
    exact h k' i
theorem gMR.cpy32 {lg : Nat → Bool} {s : gMem} {k0 k1 : Nat} {sp dp n : Int} (h : gMR lg s) (h0 : lg k0 = false) (h1 : lg k1 = false) : gMR lg (mcpy s k0 sp k1 dp n) := by
  intro k' i
  by_cases e : k' = k1
  · subst e
    refine ⟨fun _ => ?_, fun q => absurd (h1.symm.trans q) (by decide)⟩
    rw [mcpy_at]
    split
    · exact (h _ _).1 h0
    · exact (h _ _).1 h1
  · rw [mcpy_ne _ _ _ _ _ _ _ e]
    exact h k' i
theorem mfill_0 (s : gMem) (k : Nat) (v : Int) : mfill s k 0 v = s := by
  funext k' i
  by_cases e : k' = k
  · subst e
    rw [mfill_at, if_neg (by omega)]
  · rw [mfill_ne _ _ _ _ _ e]
theorem mfill_s (s : gMem) (k : Nat) (n : Nat) (v : Int) : mset (mfill s k n v) k n v = mfill s k ((n : Int) + 1) v := by
  funext k' i
  by_cases e : k' = k
  · subst e
    rw [mset_at, mfill_at, mfill_at]
    by_cases h : i = n
    · rw [if_pos h, if_pos (by omega)]
    · rw [if_neg h]
      by_cases h2 : 0 ≤ i ∧ i < n
      · rw [if_pos h2, if_pos (by omega)]
      · rw [if_neg h2, if_neg (by omega)]
  · rw [mset_ne _ _ _ _ _ e, mfill_ne _ _ _ _ _ e, mfill_ne _ _ _ _ _ e]
def KNx (s : gMem) : Prop := ∀ i, 0 ≤ s 40 i ∧ s 40 i ≤ 5
theorem KNx_set {s : gMem} {i v : Int} (h : KNx s) (hv : 0 ≤ v ∧ v ≤ 5) : KNx (mset s 40 i v) := fun j => by
  rw [mset_at]
  split
  · exact hv
  · exact h j
theorem KNx_fill {s : gMem} {n v : Int} (h : KNx s) (hv : 0 ≤ v ∧ v ≤ 5) : KNx (mfill s 40 n v) := fun j => by
  rw [mfill_at]
  split
  · exact hv
  · exact h j
theorem KNx_fr {s s1 : gMem} (h : KNx s) (e : ∀ k ∈ [40], s1 k = s k) : KNx s1 := fun j => by rw [e 40 (by decide)]; exact h j
def MOx (s : gMem) : Prop := ∀ i, 0 ≤ s 41 i ∧ s 41 i ≤ 9
theorem MOx_set {s : gMem} {i v : Int} (h : MOx s) (hv : 0 ≤ v ∧ v ≤ 9) : MOx (mset s 41 i v) := fun j => by
  rw [mset_at]
  split
  · exact hv
  · exact h j
theorem MOx_fill {s : gMem} {n v : Int} (h : MOx s) (hv : 0 ≤ v ∧ v ≤ 9) : MOx (mfill s 41 n v) := fun j => by
  rw [mfill_at]
  split
  · exact hv
  · exact h j
theorem MOx_fr {s s1 : gMem} (h : MOx s) (e : ∀ k ∈ [41], s1 k = s k) : MOx s1 := fun j => by rw [e 41 (by decide)]; exact h j
def CD (s : gMem) : Prop := ∀ t : Nat, t < 6 → ∀ i, -15 ≤ s (19 + t) i ∧ s (19 + t) i ≤ 9999
theorem CD_set {s : gMem} {t : Nat} {i v : Int} (h : CD s) (hv : -15 ≤ v ∧ v ≤ 9999) : CD (mset s (19 + t) i v) := fun t2 ht2 j => by
  by_cases e : t2 = t
  · subst e
    rw [mset_at]
    split
    · exact hv
    · exact h _ ht2 j
  · rw [mset_ne _ _ _ _ _ (by omega)]
    exact h t2 ht2 j
theorem CD_fr {s s1 : gMem} (h : CD s) (e : ∀ k ∈ [19, 20, 21, 22, 23, 24], s1 k = s k) : CD s1 := fun t ht j => by
  have hm : 19 + t ∈ [19, 20, 21, 22, 23, 24] := memb 19 6 ht (by decide)
  rw [e _ hm]
  exact h t ht j
def BG (s : gMem) : Prop := ∀ t : Nat, t < 6 → ∀ i, 0 ≤ s (26 + t) i ∧ s (26 + t) i ≤ 160
theorem BG_set {s : gMem} {t : Nat} {i v : Int} (h : BG s) (hv : 0 ≤ v ∧ v ≤ 160) : BG (mset s (26 + t) i v) := fun t2 ht2 j => by
  by_cases e : t2 = t
  · subst e
    rw [mset_at]
    split
    · exact hv
    · exact h _ ht2 j
  · rw [mset_ne _ _ _ _ _ (by omega)]
    exact h t2 ht2 j
theorem BG_fr {s s1 : gMem} (h : BG s) (e : ∀ k ∈ [26, 27, 28, 29, 30, 31], s1 k = s k) : BG s1 := fun t ht j => by
  have hm : 26 + t ∈ [26, 27, 28, 29, 30, 31] := memb 26 6 ht (by decide)
  rw [e _ hm]
  exact h t ht j
def ORx (s : gMem) : Prop := ∀ i, 0 ≤ s 43 i ∧ s 43 i ≤ 15
theorem ORx_set {s : gMem} {i v : Int} (h : ORx s) (hv : 0 ≤ v ∧ v ≤ 15) : ORx (mset s 43 i v) := fun j => by
  rw [mset_at]
  split
  · exact hv
  · exact h j
theorem ORx_fill {s : gMem} {n v : Int} (h : ORx s) (hv : 0 ≤ v ∧ v ≤ 15) : ORx (mfill s 43 n v) := fun j => by
  rw [mfill_at]
  split
  · exact hv
  · exact h j
theorem ORx_fr {s s1 : gMem} (h : ORx s) (e : ∀ k ∈ [43], s1 k = s k) : ORx s1 := fun j => by rw [e 43 (by decide)]; exact h j
def BEx (s : gMem) : Prop := ∀ i, 0 ≤ s 44 i ∧ s 44 i ≤ 16
theorem BEx_set {s : gMem} {i v : Int} (h : BEx s) (hv : 0 ≤ v ∧ v ≤ 16) : BEx (mset s 44 i v) := fun j => by
  rw [mset_at]
  split
  · exact hv
  · exact h j
theorem BEx_fill {s : gMem} {n v : Int} (h : BEx s) (hv : 0 ≤ v ∧ v ≤ 16) : BEx (mfill s 44 n v) := fun j => by
  rw [mfill_at]
  split
  · exact hv
  · exact h j
theorem BEx_fr {s s1 : gMem} (h : BEx s) (e : ∀ k ∈ [44], s1 k = s k) : BEx s1 := fun j => by rw [e 44 (by decide)]; exact h j
def KM (s : gMem) : Prop := ∀ i, -1 ≤ s 42 i ∧ s 42 i ≤ 1000000000000
theorem KM_set {s : gMem} {i v : Int} (h : KM s) (hv : -1 ≤ v ∧ v ≤ 1000000000000) : KM (mset s 42 i v) := fun j => by
  rw [mset_at]
  split
  · exact hv
  · exact h j
theorem KM_fill {s : gMem} {n v : Int} (h : KM s) (hv : -1 ≤ v ∧ v ≤ 1000000000000) : KM (mfill s 42 n v) := fun j => by
  rw [mfill_at]
  split
  · exact hv
  · exact h j
theorem KM_fr {s s1 : gMem} (h : KM s) (e : ∀ k ∈ [42], s1 k = s k) : KM s1 := fun j => by rw [e 42 (by decide)]; exact h j
def KF (s : gMem) : Prop := ∀ i, -1 ≤ s 37 i ∧ s 37 i ≤ 99
theorem KF_set {s : gMem} {i v : Int} (h : KF s) (hv : -1 ≤ v ∧ v ≤ 99) : KF (mset s 37 i v) := fun j => by
  rw [mset_at]
  split
  · exact hv
  · exact h j
theorem KF_fill {s : gMem} {n v : Int} (h : KF s) (hv : -1 ≤ v ∧ v ≤ 99) : KF (mfill s 37 n v) := fun j => by
  rw [mfill_at]
  split
  · exact hv
  · exact h j
theorem KF_fr {s s1 : gMem} (h : KF s) (e : ∀ k ∈ [37], s1 k = s k) : KF s1 := fun j => by rw [e 37 (by decide)]; exact h j
def KC (s : gMem) : Prop := ∀ i, -1 ≤ s 38 i ∧ s 38 i ≤ 99
theorem KC_set {s : gMem} {i v : Int} (h : KC s) (hv : -1 ≤ v ∧ v ≤ 99) : KC (mset s 38 i v) := fun j => by
  rw [mset_at]
  split
  · exact hv
  · exact h j
theorem KC_fill {s : gMem} {n v : Int} (h : KC s) (hv : -1 ≤ v ∧ v ≤ 99) : KC (mfill s 38 n v) := fun j => by
  rw [mfill_at]
  split
  · exact hv
  · exact h j
theorem KC_fr {s s1 : gMem} (h : KC s) (e : ∀ k ∈ [38], s1 k = s k) : KC s1 := fun j => by rw [e 38 (by decide)]; exact h j
def KT (s : gMem) : Prop := ∀ i, -1 ≤ s 39 i ∧ s 39 i ≤ 200
theorem KT_set {s : gMem} {i v : Int} (h : KT s) (hv : -1 ≤ v ∧ v ≤ 200) : KT (mset s 39 i v) := fun j => by
  rw [mset_at]
  split
  · exact hv
  · exact h j
theorem KT_fill {s : gMem} {n v : Int} (h : KT s) (hv : -1 ≤ v ∧ v ≤ 200) : KT (mfill s 39 n v) := fun j => by
  rw [mfill_at]
  split
  · exact hv
  · exact h j
theorem KT_fr {s s1 : gMem} (h : KT s) (e : ∀ k ∈ [39], s1 k = s k) : KT s1 := fun j => by rw [e 39 (by decide)]; exact h j
def GP (s : gMem) : Prop := ∀ i, 0 ≤ s 59 i ∧ s 59 i ≤ 65535
theorem GP_set {s : gMem} {i v : Int} (h : GP s) (hv : 0 ≤ v ∧ v ≤ 65535) : GP (mset s 59 i v) := fun j => by
  rw [mset_at]
  split
  · exact hv
  · exact h j
theorem GP_fill {s : gMem} {n v : Int} (h : GP s) (hv : 0 ≤ v ∧ v ≤ 65535) : GP (mfill s 59 n v) := fun j => by
  rw [mfill_at]
  split
  · exact hv
  · exact h j
theorem GP_fr {s s1 : gMem} (h : GP s) (e : ∀ k ∈ [59], s1 k = s k) : GP s1 := fun j => by rw [e 59 (by decide)]; exact h j
def ST (s : gMem) : Prop := ∀ i, 0 ≤ s 60 i ∧ s 60 i ≤ 65535
theorem ST_set {s : gMem} {i v : Int} (h : ST s) (hv : 0 ≤ v ∧ v ≤ 65535) : ST (mset s 60 i v) := fun j => by
  rw [mset_at]
  split
  · exact hv
  · exact h j
theorem ST_fill {s : gMem} {n v : Int} (h : ST s) (hv : 0 ≤ v ∧ v ≤ 65535) : ST (mfill s 60 n v) := fun j => by
  rw [mfill_at]
  split
  · exact hv
  · exact h j
theorem ST_fr {s s1 : gMem} (h : ST s) (e : ∀ k ∈ [60], s1 k = s k) : ST s1 := fun j => by rw [e 60 (by decide)]; exact h j
def EN (s : gMem) : Prop := ∀ i, 0 ≤ s 61 i ∧ s 61 i ≤ 2
theorem EN_set {s : gMem} {i v : Int} (h : EN s) (hv : 0 ≤ v ∧ v ≤ 2) : EN (mset s 61 i v) := fun j => by
  rw [mset_at]
  split
  · exact hv
  · exact h j
theorem EN_fill {s : gMem} {n v : Int} (h : EN s) (hv : 0 ≤ v ∧ v ≤ 2) : EN (mfill s 61 n v) := fun j => by
  rw [mfill_at]
  split
  · exact hv
  · exact h j
theorem EN_fr {s s1 : gMem} (h : EN s) (e : ∀ k ∈ [61], s1 k = s k) : EN s1 := fun j => by rw [e 61 (by decide)]; exact h j
def RE (s : gMem) : Prop := ∀ i, 0 ≤ s 62 i ∧ s 62 i ≤ 2
theorem RE_set {s : gMem} {i v : Int} (h : RE s) (hv : 0 ≤ v ∧ v ≤ 2) : RE (mset s 62 i v) := fun j => by
  rw [mset_at]
  split
  · exact hv
  · exact h j
theorem RE_fill {s : gMem} {n v : Int} (h : RE s) (hv : 0 ≤ v ∧ v ≤ 2) : RE (mfill s 62 n v) := fun j => by
  rw [mfill_at]
  split
  · exact hv
  · exact h j
theorem RE_fr {s s1 : gMem} (h : RE s) (e : ∀ k ∈ [62], s1 k = s k) : RE s1 := fun j => by rw [e 62 (by decide)]; exact h j
def LA (s : gMem) : Prop := ∀ i, 0 ≤ s 63 i ∧ s 63 i ≤ 5
theorem LA_set {s : gMem} {i v : Int} (h : LA s) (hv : 0 ≤ v ∧ v ≤ 5) : LA (mset s 63 i v) := fun j => by
  rw [mset_at]
  split
  · exact hv
  · exact h j
theorem LA_fill {s : gMem} {n v : Int} (h : LA s) (hv : 0 ≤ v ∧ v ≤ 5) : LA (mfill s 63 n v) := fun j => by
  rw [mfill_at]
  split
  · exact hv
  · exact h j
theorem LA_fr {s s1 : gMem} (h : LA s) (e : ∀ k ∈ [63], s1 k = s k) : LA s1 := fun j => by rw [e 63 (by decide)]; exact h j
def MY (s : gMem) : Prop := ∀ i, 1 ≤ s 51 i ∧ s 51 i ≤ 6
theorem MY_set {s : gMem} {i v : Int} (h : MY s) (hv : 1 ≤ v ∧ v ≤ 6) : MY (mset s 51 i v) := fun j => by
  rw [mset_at]
  split
  · exact hv
  · exact h j
theorem MY_fill {s : gMem} {n v : Int} (h : MY s) (hv : 1 ≤ v ∧ v ≤ 6) : MY (mfill s 51 n v) := fun j => by
  rw [mfill_at]
  split
  · exact hv
  · exact h j
theorem MY_fr {s s1 : gMem} (h : MY s) (e : ∀ k ∈ [51], s1 k = s k) : MY s1 := fun j => by rw [e 51 (by decide)]; exact h j
def SSo (s : gMem) : Prop := ∀ t : Nat, t < 4 → ∀ i, -1 ≤ s (90 + t) i ∧ s (90 + t) i ≤ 2
theorem SSo_set {s : gMem} {t : Nat} {i v : Int} (h : SSo s) (hv : -1 ≤ v ∧ v ≤ 2) : SSo (mset s (90 + t) i v) := fun t2 ht2 j => by
  by_cases e : t2 = t
  · subst e
    rw [mset_at]
    split
    · exact hv
    · exact h _ ht2 j
  · rw [mset_ne _ _ _ _ _ (by omega)]
    exact h t2 ht2 j
theorem SSo_fr {s s1 : gMem} (h : SSo s) (e : ∀ k ∈ [90, 91, 92, 93], s1 k = s k) : SSo s1 := fun t ht j => by
  have hm : 90 + t ∈ [90, 91, 92, 93] := memb 90 4 ht (by decide)
  rw [e _ hm]
  exact h t ht j
def SSi (s : gMem) : Prop := ∀ t : Nat, t < 4 → ∀ i, 0 ≤ s (94 + t) i ∧ s (94 + t) i ≤ 40
theorem SSi_set {s : gMem} {t : Nat} {i v : Int} (h : SSi s) (hv : 0 ≤ v ∧ v ≤ 40) : SSi (mset s (94 + t) i v) := fun t2 ht2 j => by
  by_cases e : t2 = t
  · subst e
    rw [mset_at]
    split
    · exact hv
    · exact h _ ht2 j
  · rw [mset_ne _ _ _ _ _ (by omega)]
    exact h t2 ht2 j
theorem SSi_fr {s s1 : gMem} (h : SSi s) (e : ∀ k ∈ [94, 95, 96, 97], s1 k = s k) : SSi s1 := fun t ht j => by
  have hm : 94 + t ∈ [94, 95, 96, 97] := memb 94 4 ht (by decide)
  rw [e _ hm]
  exact h t ht j
def kKN (s : gMem) : Prop := ∀ i, 0 ≤ s 45 i ∧ s 45 i ≤ 5
theorem kKN_set {s : gMem} {i v : Int} (h : kKN s) (hv : 0 ≤ v ∧ v ≤ 5) : kKN (mset s 45 i v) := fun j => by
  rw [mset_at]
  split
  · exact hv
  · exact h j
theorem kKN_fill {s : gMem} {n v : Int} (h : kKN s) (hv : 0 ≤ v ∧ v ≤ 5) : kKN (mfill s 45 n v) := fun j => by
  rw [mfill_at]
  split
  · exact hv
  · exact h j
theorem kKN_fr {s s1 : gMem} (h : kKN s) (e : ∀ k ∈ [45], s1 k = s k) : kKN s1 := fun j => by rw [e 45 (by decide)]; exact h j
def kMO (s : gMem) : Prop := ∀ i, 0 ≤ s 46 i ∧ s 46 i ≤ 9
theorem kMO_set {s : gMem} {i v : Int} (h : kMO s) (hv : 0 ≤ v ∧ v ≤ 9) : kMO (mset s 46 i v) := fun j => by
  rw [mset_at]
  split
  · exact hv
  · exact h j
theorem kMO_fill {s : gMem} {n v : Int} (h : kMO s) (hv : 0 ≤ v ∧ v ≤ 9) : kMO (mfill s 46 n v) := fun j => by
  rw [mfill_at]
  split
  · exact hv
  · exact h j
theorem kMO_fr {s s1 : gMem} (h : kMO s) (e : ∀ k ∈ [46], s1 k = s k) : kMO s1 := fun j => by rw [e 46 (by decide)]; exact h j
def kGP (s : gMem) : Prop := ∀ i, 0 ≤ s 75 i ∧ s 75 i ≤ 65535
theorem kGP_set {s : gMem} {i v : Int} (h : kGP s) (hv : 0 ≤ v ∧ v ≤ 65535) : kGP (mset s 75 i v) := fun j => by
  rw [mset_at]
  split
  · exact hv
  · exact h j
theorem kGP_fill {s : gMem} {n v : Int} (h : kGP s) (hv : 0 ≤ v ∧ v ≤ 65535) : kGP (mfill s 75 n v) := fun j => by
  rw [mfill_at]
  split
  · exact hv
  · exact h j
theorem kGP_fr {s s1 : gMem} (h : kGP s) (e : ∀ k ∈ [75], s1 k = s k) : kGP s1 := fun j => by rw [e 75 (by decide)]; exact h j
def kST (s : gMem) : Prop := ∀ i, 0 ≤ s 76 i ∧ s 76 i ≤ 65535
theorem kST_set {s : gMem} {i v : Int} (h : kST s) (hv : 0 ≤ v ∧ v ≤ 65535) : kST (mset s 76 i v) := fun j => by
  rw [mset_at]
  split
  · exact hv
  · exact h j
theorem kST_fill {s : gMem} {n v : Int} (h : kST s) (hv : 0 ≤ v ∧ v ≤ 65535) : kST (mfill s 76 n v) := fun j => by
  rw [mfill_at]
  split
  · exact hv
  · exact h j
theorem kST_fr {s s1 : gMem} (h : kST s) (e : ∀ k ∈ [76], s1 k = s k) : kST s1 := fun j => by rw [e 76 (by decide)]; exact h j
def kEN (s : gMem) : Prop := ∀ i, 0 ≤ s 77 i ∧ s 77 i ≤ 2
theorem kEN_set {s : gMem} {i v : Int} (h : kEN s) (hv : 0 ≤ v ∧ v ≤ 2) : kEN (mset s 77 i v) := fun j => by
  rw [mset_at]
  split
  · exact hv
  · exact h j
theorem kEN_fill {s : gMem} {n v : Int} (h : kEN s) (hv : 0 ≤ v ∧ v ≤ 2) : kEN (mfill s 77 n v) := fun j => by
  rw [mfill_at]
  split
  · exact hv
  · exact h j
theorem kEN_fr {s s1 : gMem} (h : kEN s) (e : ∀ k ∈ [77], s1 k = s k) : kEN s1 := fun j => by rw [e 77 (by decide)]; exact h j
def kRE (s : gMem) : Prop := ∀ i, 0 ≤ s 78 i ∧ s 78 i ≤ 2
theorem kRE_set {s : gMem} {i v : Int} (h : kRE s) (hv : 0 ≤ v ∧ v ≤ 2) : kRE (mset s 78 i v) := fun j => by
  rw [mset_at]
  split
  · exact hv
  · exact h j
theorem kRE_fill {s : gMem} {n v : Int} (h : kRE s) (hv : 0 ≤ v ∧ v ≤ 2) : kRE (mfill s 78 n v) := fun j => by
  rw [mfill_at]
  split
  · exact hv
  · exact h j
theorem kRE_fr {s s1 : gMem} (h : kRE s) (e : ∀ k ∈ [78], s1 k = s k) : kRE s1 := fun j => by rw [e 78 (by decide)]; exact h j
def kLA (s : gMem) : Prop := ∀ i, 0 ≤ s 79 i ∧ s 79 i ≤ 5
theorem kLA_set {s : gMem} {i v : Int} (h : kLA s) (hv : 0 ≤ v ∧ v ≤ 5) : kLA (mset s 79 i v) := fun j => by
  rw [mset_at]
  split
  · exact hv
  · exact h j
theorem kLA_fill {s : gMem} {n v : Int} (h : kLA s) (hv : 0 ≤ v ∧ v ≤ 5) : kLA (mfill s 79 n v) := fun j => by
  rw [mfill_at]
  split
  · exact hv
  · exact h j
theorem kLA_fr {s s1 : gMem} (h : kLA s) (e : ∀ k ∈ [79], s1 k = s k) : kLA s1 := fun j => by rw [e 79 (by decide)]; exact h j
def LST (s : gMem) : Prop := ∀ i, 0 ≤ s 72 i ∧ s 72 i ≤ 65535
theorem LST_set {s : gMem} {i v : Int} (h : LST s) (hv : 0 ≤ v ∧ v ≤ 65535) : LST (mset s 72 i v) := fun j => by
  rw [mset_at]
  split
  · exact hv
  · exact h j
theorem LST_fill {s : gMem} {n v : Int} (h : LST s) (hv : 0 ≤ v ∧ v ≤ 65535) : LST (mfill s 72 n v) := fun j => by
  rw [mfill_at]
  split
  · exact hv
  · exact h j
theorem LST_fr {s s1 : gMem} (h : LST s) (e : ∀ k ∈ [72], s1 k = s k) : LST s1 := fun j => by rw [e 72 (by decide)]; exact h j
def WY (s : gMem) : Prop := ∀ i, 0 ≤ s 64 i ∧ s 64 i ≤ 2
theorem WY_set {s : gMem} {i v : Int} (h : WY s) (hv : 0 ≤ v ∧ v ≤ 2) : WY (mset s 64 i v) := fun j => by
  rw [mset_at]
  split
  · exact hv
  · exact h j
theorem WY_fill {s : gMem} {n v : Int} (h : WY s) (hv : 0 ≤ v ∧ v ≤ 2) : WY (mfill s 64 n v) := fun j => by
  rw [mfill_at]
  split
  · exact hv
  · exact h j
theorem WY_fr {s s1 : gMem} (h : WY s) (e : ∀ k ∈ [64], s1 k = s k) : WY s1 := fun j => by rw [e 64 (by decide)]; exact h j
def RS (s : gMem) : Prop := ∀ i, 0 ≤ s 52 i ∧ s 52 i ≤ 160
theorem RS_set {s : gMem} {i v : Int} (h : RS s) (hv : 0 ≤ v ∧ v ≤ 160) : RS (mset s 52 i v) := fun j => by
  rw [mset_at]
  split
  · exact hv
  · exact h j
theorem RS_fill {s : gMem} {n v : Int} (h : RS s) (hv : 0 ≤ v ∧ v ≤ 160) : RS (mfill s 52 n v) := fun j => by
  rw [mfill_at]
  split
  · exact hv
  · exact h j
theorem RS_fr {s s1 : gMem} (h : RS s) (e : ∀ k ∈ [52], s1 k = s k) : RS s1 := fun j => by rw [e 52 (by decide)]; exact h j
def LT (s : gMem) : Prop := ∀ i, 0 ≤ s 71 i ∧ s 71 i ≤ 2147483647
theorem LT_set {s : gMem} {i v : Int} (h : LT s) (hv : 0 ≤ v ∧ v ≤ 2147483647) : LT (mset s 71 i v) := fun j => by
  rw [mset_at]
  split
  · exact hv
  · exact h j
theorem LT_fill {s : gMem} {n v : Int} (h : LT s) (hv : 0 ≤ v ∧ v ≤ 2147483647) : LT (mfill s 71 n v) := fun j => by
  rw [mfill_at]
  split
  · exact hv
  · exact h j
theorem LT_fr {s s1 : gMem} (h : LT s) (e : ∀ k ∈ [71], s1 k = s k) : LT s1 := fun j => by rw [e 71 (by decide)]; exact h j
def imax (x y : Int) : Int := if x < y then y else x
def lmin (x y : Int) : Int := if y < x then y else x
def iabs (x : Int) : Int := if 0 ≤ x then x else -x
def labs (x : Int) : Int := if 0 < x then x else -x
theorem imax_p (x y : Int) : (x < y ∧ imax x y = y) ∨ (y ≤ x ∧ imax x y = x) := by unfold imax; split <;> omega
theorem lmin_p (x y : Int) : (y < x ∧ lmin x y = y) ∨ (x ≤ y ∧ lmin x y = x) := by unfold lmin; split <;> omega
theorem iabs_p (x : Int) : (0 ≤ x ∧ iabs x = x) ∨ (x < 0 ∧ iabs x = -x) := by unfold iabs; split <;> omega
theorem labs_p (x : Int) : (0 ≤ x ∧ labs x = x) ∨ (x < 0 ∧ labs x = -x) := by unfold labs; split <;> omega
section XK
variable {D : va_G} {cl : List vw_C} {tys : List (ClassId × FieldType)} {wd : gMem → va_W} {lg : Nat → Bool} {A : Nat → Prop} {p : Program} {l : Launch} {e : Env} {R : Room} {s : State} {m : MethodId} {args : Array Value} {below : List Frame} {meth : Method} {c : Code} {nL : Nat} {QQ : gRes → State → Prop} {ρ : gRes} {σ : gMem} {pc : Nat} {lv lv' : List (Nat × Value)} {st : List Value} {cc : ByteArray} {own : String} {ret : Option FieldType}
theorem k_max (E : gE D cl tys wd A p s m args meth c cc nL own ret) {x y : Int} {index : Nat} (hx : in32 x) (hy : in32 y) (hlink : Cond.methodLink own index Lib.Math.max.name ∈ gBIG) (hstat : Cond.static Lib.Math.max.name ∈ gBIG) (hini : Cond.initialized "java/lang/Math" ∈ gBIG) (hcode : Cond.code Lib.Math.max.name Lib.Math.max.code 2 (some .int) ∈ gBIG) (hfr : 1 ≤ R.frames) (hlo : (st.map fun v => v.category).sum + 13 ≤ R.locals) (d : decode cc pc = .ok (.invokestatic index, 3)) (k : gK D cl wd lg A p l e R s m args below meth c nL QQ ρ σ (pc + 3) lv (gI (imax x y) :: st)) : gK D cl wd lg A p l e R s m args below meth c nL QQ ρ σ pc lv (gI y :: gI x :: st) := by
  intro H locs ls hP hD hS hR hl
  have e9 : (if Int32.ofInt x < Int32.ofInt y then Int32.ofInt y else Int32.ofInt x) = Int32.ofInt (imax x y) := by
    unfold imax
    by_cases h : x < y
    · rw [if_pos h, if_pos ((i_lt hx hy).mpr h)]
    · rw [if_neg h, if_neg (fun q => h ((i_lt hx hy).mp q))]
  refine va_mmax E.1 E.2.1 (E.2.2.1.trans hl.1.symm) E.2.2.2.1 (E.2.2.2.2.1 _ hlink) (E.2.2.2.2.1 _ hstat) (E.2.2.2.2.1 _ hini) (E.2.2.2.2.1 _ hcode) hfr hlo (Nat.zero_le _) (Nat.zero_le _) d ?_
  rw [e9]
  exact k H locs ls hP hD hS hR hl
theorem k_abs (E : gE D cl tys wd A p s m args meth c cc nL own ret) {x : Int} {index : Nat} (hx : in32 x)  (hlink : Cond.methodLink own index Lib.Math.abs.name ∈ gBIG) (hstat : Cond.static Lib.Math.abs.name ∈ gBIG) (hini : Cond.initialized "java/lang/Math" ∈ gBIG) (hcode : Cond.code Lib.Math.abs.name Lib.Math.abs.code 1 (some .int) ∈ gBIG) (hfr : 1 ≤ R.frames) (hlo : (st.map fun v => v.category).sum + 13 ≤ R.locals) (d : decode cc pc = .ok (.invokestatic index, 3)) (k : gK D cl wd lg A p l e R s m args below meth c nL QQ ρ σ (pc + 3) lv (gI (iabs x) :: st)) : gK D cl wd lg A p l e R s m args below meth c nL QQ ρ σ pc lv (gI x :: st) := by
  intro H locs ls hP hD hS hR hl
  have e9 : (if 0 ≤ Int32.ofInt x then Int32.ofInt x else 0 - Int32.ofInt x) = Int32.ofInt (iabs x) := by
    unfold iabs
    by_cases h : 0 ≤ x
    · rw [if_pos h, if_pos (show (0 : Int32) ≤ Int32.ofInt x from (i_le (x := 0) ⟨by decide, by decide⟩ hx).mpr h)]
    · rw [if_neg h, if_neg (fun q : (0 : Int32) ≤ Int32.ofInt x => h ((i_le (x := 0) ⟨by decide, by decide⟩ hx).mp q)), Int32.ofInt_neg, Int32.zero_sub]
  refine va_mabs E.1 E.2.1 (E.2.2.1.trans hl.1.symm) E.2.2.2.1 (E.2.2.2.2.1 _ hlink) (E.2.2.2.2.1 _ hstat) (E.2.2.2.2.1 _ hini) (E.2.2.2.2.1 _ hcode) hfr hlo (Nat.zero_le _) (Nat.zero_le _) d ?_
  rw [e9]
  exact k H locs ls hP hD hS hR hl
theorem k_lmin (E : gE D cl tys wd A p s m args meth c cc nL own ret) {x y : Int} {index : Nat} (hx : in64 x) (hy : in64 y) (hlink : Cond.methodLink own index Lib.MathLoose.min_long.x ∈ gBIG) (hstat : Cond.static Lib.MathLoose.min_long.x ∈ gBIG) (hini : Cond.initialized "java/lang/Math" ∈ gBIG) (hcode : Cond.code Lib.MathLoose.min_long.x Lib.MathLoose.min_long.code 4 (some .long) ∈ gBIG) (hfr : 1 ≤ R.frames) (hlo : (st.map fun v => v.category).sum + 15 ≤ R.locals) (d : decode cc pc = .ok (.invokestatic index, 3)) (k : gK D cl wd lg A p l e R s m args below meth c nL QQ ρ σ (pc + 3) lv (gL (lmin x y) :: st)) : gK D cl wd lg A p l e R s m args below meth c nL QQ ρ σ pc lv (gL y :: gL x :: st) := by
  intro H locs ls hP hD hS hR hl
  have e9 : (if Int64.ofInt y < Int64.ofInt x then Int64.ofInt y else Int64.ofInt x) = Int64.ofInt (lmin x y) := by
    unfold lmin
    by_cases h : y < x
    · rw [if_pos h, if_pos ((l_lt hy hx).mpr h)]
    · rw [if_neg h, if_neg (fun q => h ((l_lt hy hx).mp q))]
  refine va_mmin_long E.1 E.2.1 (E.2.2.1.trans hl.1.symm) E.2.2.2.1 (E.2.2.2.2.1 _ hlink) (E.2.2.2.2.1 _ hstat) (E.2.2.2.2.1 _ hini) (E.2.2.2.2.1 _ hcode) hfr hlo (Nat.zero_le _) (Nat.zero_le _) d ?_
  rw [e9]
  exact k H locs ls hP hD hS hR hl
theorem k_labs (E : gE D cl tys wd A p s m args meth c cc nL own ret) {x : Int} {index : Nat} (hx : in64 x)  (hlink : Cond.methodLink own index Lib.MathLoose.abs_long.x ∈ gBIG) (hstat : Cond.static Lib.MathLoose.abs_long.x ∈ gBIG) (hini : Cond.initialized "java/lang/Math" ∈ gBIG) (hcode : Cond.code Lib.MathLoose.abs_long.x Lib.MathLoose.abs_long.code 2 (some .long) ∈ gBIG) (hfr : 1 ≤ R.frames) (hlo : (st.map fun v => v.category).sum + 13 ≤ R.locals) (d : decode cc pc = .ok (.invokestatic index, 3)) (k : gK D cl wd lg A p l e R s m args below meth c nL QQ ρ σ (pc + 3) lv (gL (labs x) :: st)) : gK D cl wd lg A p l e R s m args below meth c nL QQ ρ σ pc lv (gL x :: st) := by
  intro H locs ls hP hD hS hR hl
  have e9 : (if 0 < Int64.ofInt x then Int64.ofInt x else -Int64.ofInt x) = Int64.ofInt (labs x) := by
    unfold labs
    by_cases h : 0 < x
    · rw [if_pos h, if_pos (show (0 : Int64) < Int64.ofInt x from (l_lt (x := 0) ⟨by decide, by decide⟩ hx).mpr h)]
    · rw [if_neg h, if_neg (fun q : (0 : Int64) < Int64.ofInt x => h ((l_lt (x := 0) ⟨by decide, by decide⟩ hx).mp q)), Int64.ofInt_neg]
  refine va_mabs_long E.1 E.2.1 (E.2.2.1.trans hl.1.symm) E.2.2.2.1 (E.2.2.2.2.1 _ hlink) (E.2.2.2.2.1 _ hstat) (E.2.2.2.2.1 _ hini) (E.2.2.2.2.1 _ hcode) hfr hlo (Nat.zero_le _) (Nat.zero_le _) d ?_
  rw [e9]
  exact k H locs ls hP hD hS hR hl
theorem k_alenI (E : gE D cl tys wd A p s m args meth c cc nL own ret) {a n q0 t0 : Nat} {cA : ClassId} {f : Nat → Int32} (ha : (wd σ)[q0]? = some (a, .inl (cA, n, .inl f))) (ht : tys[t0]? = some (cA, .int)) (d : decode cc pc = .ok (.arraylength, 1)) (k : gK D cl wd lg A p l e R s m args below meth c nL QQ ρ σ (pc + 1) lv (gI (n : Int) :: st)) : gK D cl wd lg A p l e R s m args below meth c nL QQ ρ σ pc lv (.ref a :: st) := fun H locs ls hP hD hS hR hl => va_alen E.1 E.2.1 E.2.2.2.2.2.1 hP q0 t0 ha ht (Int32.ofInt_eq_ofNat).symm d (k H locs ls hP hD hS hR hl)
theorem k_alenJ (E : gE D cl tys wd A p s m args meth c cc nL own ret) {a n q0 t0 : Nat} {cA : ClassId} {f : Nat → Int64} (ha : (wd σ)[q0]? = some (a, .inl (cA, n, .inr (.inl f)))) (ht : tys[t0]? = some (cA, .long)) (d : decode cc pc = .ok (.arraylength, 1)) (k : gK D cl wd lg A p l e R s m args below meth c nL QQ ρ σ (pc + 1) lv (gI (n : Int) :: st)) : gK D cl wd lg A p l e R s m args below meth c nL QQ ρ σ pc lv (.ref a :: st) := fun H locs ls hP hD hS hR hl => va_alen E.1 E.2.1 E.2.2.2.2.2.1 hP q0 t0 ha ht (Int32.ofInt_eq_ofNat).symm d (k H locs ls hP hD hS hR hl)
theorem k_copyi (E : gE D cl tys wd A p s m args meth c cc nL own ret) {a0 a n0 n1 k0 k1 q0 q1 index : Nat} {cA : ClassId} {sp dp n : Int} (hlink : Cond.methodLink own index arraycopyName ∈ gBIG) (hnat : Cond.native arraycopyName ∈ gBIG) (hstat : Cond.static arraycopyName ∈ gBIG) (hini : Cond.initialized "java/lang/System" ∈ gBIG)
    (ha0 : (wd σ)[q0]? = some (a0, .inl (cA, n0, .inl (fun j => Int32.ofInt (σ k0 (j : Int)))))) (ha1 : (wd σ)[q1]? = some (a, .inl (cA, n1, .inl (fun j => Int32.ofInt (σ k1 (j : Int)))))) (hw : (wd σ).set q1 (a, .inl (cA, n1, .inl (fun j => Int32.ofInt (mcpy σ k0 sp k1 dp n k1 (j : Int))))) = wd (mcpy σ k0 sp k1 dp n)) (ht : tys[0]? = some (cA, .int)) (hk0 : lg k0 = false) (hk1 : lg k1 = false) (hn0 : n0 < 100000) (hn1 : n1 < 100000)
    (h1 : 0 ≤ sp) (h2 : 0 ≤ dp) (h3 : 0 ≤ n) (h4 : sp + n ≤ n0) (h5 : dp + n ≤ n1) (hfr : 1 ≤ R.frames) (hlo : (st.map fun v => v.category).sum + (nativeFrameWords "java/lang/System" "arraycopy" 5 + 11) ≤ R.locals) (d : decode cc pc = .ok (.invokestatic index, 3)) (k : gK D cl wd lg A p l e R s m args below meth c nL QQ ρ (mcpy σ k0 sp k1 dp n) (pc + 3) lv st) : gK D cl wd lg A p l e R s m args below meth c nL QQ ρ σ pc lv (gI n :: gI dp :: .ref a :: gI sp :: .ref a0 :: st) := by
  intro H locs ls hP hD hS hR hl
  have e1 := i_cl h1 (by omega)
  have e2 := i_cl h2 (by omega)
  have e3 := i_cl h3 (by omega)
  have nz : ∀ {z : Int}, 0 ≤ z → z < 2147483648 → ¬ Int32.ofInt z < 0 := fun hz hz2 q => absurd ((i_lt (y := 0) ⟨by omega, by omega⟩ ⟨by decide, by decide⟩).mp q) (by omega)
  refine va_copyi E.1 E.2.1 (E.2.2.1.trans hl.1.symm) E.2.2.2.1 (E.2.2.2.2.1 _ hlink) (E.2.2.2.2.1 _ hnat) (E.2.2.2.2.1 _ hstat) (E.2.2.2.2.1 _ hini) E.2.2.2.2.2.1 hP hD hS q0 q1 0 0 ha0 ha1 ht ht rfl (nz h1 (by omega)) (nz h2 (by omega)) (nz h3 (by omega)) (by omega) (by omega) (fun _ _ => rfl) hfr hlo d (fun H1 locs1 hP1 hD1 hS1 => ?_)
  have e9 : va_cpy (fun j : Nat => Int32.ofInt (σ k0 (j : Int))) (fun j : Nat => Int32.ofInt (σ k1 (j : Int))) (Int32.ofInt sp).toNatClampNeg (Int32.ofInt dp).toNatClampNeg (Int32.ofInt n).toNatClampNeg = fun j : Nat => Int32.ofInt (mcpy σ k0 sp k1 dp n k1 (j : Int)) := by
    funext j
    simp only [va_cpy, mcpy_at]
    by_cases h : dp ≤ (j : Int) ∧ (j : Int) < dp + n
    · rw [if_pos h, if_pos (by omega)]
      congr 2
      omega
    · rw [if_neg h, if_neg (by omega)]
  rw [e9, hw] at hP1 hD1
  exact k H1 locs1 ls hP1 hD1 hS1 (hR.cpy32 hk0 hk1) hl
end XK
set_option maxHeartbeats 4000000 in
theorem c_fillI (l : Launch) (D : va_G) {cl : List vw_C} {tys : List (ClassId × FieldType)} {wd : gMem → va_W} {lg : Nat → Bool} {q0 k n ad : Nat} {cA : ClassId} (hwd : ∀ σ, (wd σ).map (·.1) = (wd (fun _ _ => 0)).map (·.1)) (ha : ∀ σ : gMem, (wd σ)[q0]? = some (ad, .inl (cA, n, .inl (fun j => Int32.ofInt (σ k (j : Int)))))) (hw : ∀ (σ : gMem) (i v : Int), (wd σ).set q0 (ad, .inl (cA, n, .inl (fun j => Int32.ofInt (mset σ k i v k (j : Int))))) = wd (mset σ k i v)) (ht : tys[0]? = some (cA, .int)) (hk : lg k = false) (hn : n < 100000) (s0 : gMem) (v : Int) (hv : in32 v) : gC l yJ7_fill_53178 cJ7_fill_53178 4 none 1 64 D cl tys wd lg kV rgV [.ref ad, gI v] s0 (0, mfill s0 k n v) := by
  refine gC_of (by decide +kernel) hwd (Nat.le_of_ble_eq_true rfl) ?_
  intro A p e R s m args below meth c hR E
  subst hR
  refine k_lv0 (lv' := [(0, .ref ad), (1, gI v)]) rfl ?_
  refine k_iconst (pc := 0) E dJ7_fill_53178_0 ?_
  refine k_istoren (pc := 1) (lv' := [(2, gI 0), (0, .ref ad), (1, gI v)]) E dJ7_fill_53178_1 rfl (by decide) rfl ?_
  refine k_aloadn (pc := 2) E 1 dJ7_fill_53178_2 rfl rfl ?_
  refine k_alenI (pc := 3) (q0 := q0) (t0 := 0) E (ha s0) ht dJ7_fill_53178_3 ?_
  refine k_istoren (pc := 4) (lv' := [(3, gI (n : Int)), (2, gI 0), (0, .ref ad), (1, gI v)]) E dJ7_fill_53178_4 rfl (by decide) rfl ?_
  have L : ∀ (f i : Nat), i ≤ n → n - i < f → gK D cl wd lg A p l e { frames := 1, cells := 0, slots := 0, locals := 64 } s m args below meth c 4 (gQQ D cl wd lg A kV rgV below args s) (0, mfill s0 k n v) (mfill s0 k i v) 5 [(3, gI (n : Int)), (2, gI (i : Int)), (0, .ref ad), (1, gI v)] [] := by
    intro f
    induction f with
    | zero => intro i h1 h2; omega
    | succ f ih =>
      intro i h1 h2
      refine k_iloadn (pc := 5) E 1 dJ7_fill_53178_5 rfl rfl ?_
      refine k_iloadn (pc := 6) E 0 dJ7_fill_53178_6 rfl rfl ?_
      by_cases h : (i : Int) < n
      · refine k_icmp_ge_f (pc := 7) (tgt := 20) E (by omega) (by omega) dJ7_fill_53178_7 (by decide) h ?_
        refine k_aloadn (pc := 10) E 2 dJ7_fill_53178_10 rfl rfl ?_
        refine k_iloadn (pc := 11) E 1 dJ7_fill_53178_11 rfl rfl ?_
        refine k_iloadn (pc := 12) E 3 dJ7_fill_53178_12 rfl rfl ?_
        refine k_iastore (pc := 13) (q0 := q0) (t0 := 0) (k := k) (n := n) E (ha _) (hw _ _ _) ht hk (by omega) (by omega) (by omega) hv dJ7_fill_53178_13 ?_
        refine k_iinc (pc := 14) (lv' := [(2, gI ((i : Int) + 1)), (3, gI (n : Int)), (0, .ref ad), (1, gI v)]) E 1 dJ7_fill_53178_14 rfl (by decide) rfl ?_
        refine k_goto (pc := 17) (tgt := 5) E dJ7_fill_53178_17 (by decide) ?_
        refine k_lv (lv' := [(3, gI (n : Int)), (2, gI ((i : Int) + 1)), (0, .ref ad), (1, gI v)]) [1, 0, 2, 3] rfl ?_
        refine k_sg (mfill_s s0 k i v) ?_
        exact ih (i + 1) (by omega) (by omega)
      · refine k_icmp_ge_t (pc := 7) (tgt := 20) E (by omega) (by omega) dJ7_fill_53178_7 (by decide) h ?_
        have e9 : i = n := by omega
        subst e9
        exact k_vret (pc := 20) E dJ7_fill_53178_20
  refine k_sg (mfill_0 s0 k v).symm ?_
  exact L (n + 1) 0 (by omega) (by omega)
set_option maxHeartbeats 4000000 in
theorem c_fillJ (l : Launch) (D : va_G) {cl : List vw_C} {tys : List (ClassId × FieldType)} {wd : gMem → va_W} {lg : Nat → Bool} {q0 k n ad : Nat} {cA : ClassId} (hwd : ∀ σ, (wd σ).map (·.1) = (wd (fun _ _ => 0)).map (·.1)) (ha : ∀ σ : gMem, (wd σ)[q0]? = some (ad, .inl (cA, n, .inr (.inl (fun j => Int64.ofInt (σ k (j : Int))))))) (hw : ∀ (σ : gMem) (i v : Int), (wd σ).set q0 (ad, .inl (cA, n, .inr (.inl (fun j => Int64.ofInt (mset σ k i v k (j : Int)))))) = wd (mset σ k i v)) (ht : tys[1]? = some (cA, .long)) (hk : lg k = true) (hn : n < 100000) (s0 : gMem) (v : Int) (hv : in64 v) : gC l yJ7_fill_d0a16 cJ7_fill_d0a16 5 none 1 64 D cl tys wd lg kV rgV [.ref ad, gL v] s0 (0, mfill s0 k n v) := by
  refine gC_of (by decide +kernel) hwd (Nat.le_of_ble_eq_true rfl) ?_
  intro A p e R s m args below meth c hR E
  subst hR
  refine k_lv0 (lv' := [(0, .ref ad), (1, gL v)]) rfl ?_
  refine k_iconst (pc := 0) E dJ7_fill_d0a16_0 ?_
  refine k_istoren (pc := 1) (lv' := [(3, gI 0), (0, .ref ad), (1, gL v)]) E dJ7_fill_d0a16_1 rfl (by decide) rfl ?_
  refine k_aloadn (pc := 2) E 1 dJ7_fill_d0a16_2 rfl rfl ?_
  refine k_alenJ (pc := 3) (q0 := q0) (t0 := 1) E (ha s0) ht dJ7_fill_d0a16_3 ?_
  refine k_istore (pc := 4) (lv' := [(4, gI (n : Int)), (3, gI 0), (0, .ref ad), (1, gL v)]) E dJ7_fill_d0a16_4 (by decide) rfl ?_
  have L : ∀ (f i : Nat), i ≤ n → n - i < f → gK D cl wd lg A p l e { frames := 1, cells := 0, slots := 0, locals := 64 } s m args below meth c 5 (gQQ D cl wd lg A kV rgV below args s) (0, mfill s0 k n v) (mfill s0 k i v) 6 [(4, gI (n : Int)), (3, gI (i : Int)), (0, .ref ad), (1, gL v)] [] := by
    intro f
    induction f with
    | zero => intro i h1 h2; omega
    | succ f ih =>
      intro i h1 h2
      refine k_iloadn (pc := 6) E 1 dJ7_fill_d0a16_6 rfl rfl ?_
      refine k_iload (pc := 7) E 0 dJ7_fill_d0a16_7 rfl ?_
      by_cases h : (i : Int) < n
      · refine k_icmp_ge_f (pc := 9) (tgt := 22) E (by omega) (by omega) dJ7_fill_d0a16_9 (by decide) h ?_
        refine k_aloadn (pc := 12) E 2 dJ7_fill_d0a16_12 rfl rfl ?_
        refine k_iloadn (pc := 13) E 1 dJ7_fill_d0a16_13 rfl rfl ?_
        refine k_lloadn (pc := 14) E 3 dJ7_fill_d0a16_14 rfl rfl ?_
        refine k_lastore (pc := 15) (q0 := q0) (t0 := 1) (k := k) (n := n) E (ha _) (hw _ _ _) ht hk (by omega) (by omega) (by omega) hv dJ7_fill_d0a16_15 ?_
        refine k_iinc (pc := 16) (lv' := [(3, gI ((i : Int) + 1)), (4, gI (n : Int)), (0, .ref ad), (1, gL v)]) E 1 dJ7_fill_d0a16_16 rfl (by decide) rfl ?_
        refine k_goto (pc := 19) (tgt := 6) E dJ7_fill_d0a16_19 (by decide) ?_
        refine k_lv (lv' := [(4, gI (n : Int)), (3, gI ((i : Int) + 1)), (0, .ref ad), (1, gL v)]) [1, 0, 2, 3] rfl ?_
        refine k_sg (mfill_s s0 k i v) ?_
        exact ih (i + 1) (by omega) (by omega)
      · refine k_icmp_ge_t (pc := 9) (tgt := 22) E (by omega) (by omega) dJ7_fill_d0a16_9 (by decide) h ?_
        have e9 : i = n := by omega
        subst e9
        exact k_vret (pc := 22) E dJ7_fill_d0a16_22
  refine k_sg (mfill_0 s0 k v).symm ?_
  exact L (n + 1) 0 (by omega) (by omega)
theorem scC (a : Nat → Nat) (cI cJ cS cT : ClassId) (s : gMem) (k0 : Nat) (sp dp n : Int) : ∀ {k : Nat}, k < 4 → (wdX a cI cJ cS cT s).set (14 + k) (a (14 + k), .inl (cI, 40, .inl (fun j : Nat => Int32.ofInt (mcpy s k0 sp (14 + k) dp n (14 + k) (j : Int))))) = wdX a cI cJ cS cT (mcpy s k0 sp (14 + k) dp n)
  | 0, _ => rfl
  | 1, _ => rfl
  | 2, _ => rfl
  | 3, _ => rfl
  | q + 4, h => absurd h (by omega)
theorem coC (a : Nat → Nat) (cI cJ cS cT : ClassId) (s : gMem) (k0 : Nat) (sp dp n : Int) : ∀ {k : Nat}, k < 6 → (wdX a cI cJ cS cT s).set (19 + k) (a (19 + k), .inl (cI, 160, .inl (fun j : Nat => Int32.ofInt (mcpy s k0 sp (19 + k) dp n (19 + k) (j : Int))))) = wdX a cI cJ cS cT (mcpy s k0 sp (19 + k) dp n)
  | 0, _ => rfl
  | 1, _ => rfl
  | 2, _ => rfl
  | 3, _ => rfl
  | 4, _ => rfl
  | 5, _ => rfl
  | q + 6, h => absurd h (by omega)
theorem beC (a : Nat → Nat) (cI cJ cS cT : ClassId) (s : gMem) (k0 : Nat) (sp dp n : Int) : ∀ {k : Nat}, k < 6 → (wdX a cI cJ cS cT s).set (26 + k) (a (26 + k), .inl (cI, 4, .inl (fun j : Nat => Int32.ofInt (mcpy s k0 sp (26 + k) dp n (26 + k) (j : Int))))) = wdX a cI cJ cS cT (mcpy s k0 sp (26 + k) dp n)
  | 0, _ => rfl
  | 1, _ => rfl
  | 2, _ => rfl
  | 3, _ => rfl
  | 4, _ => rfl
  | 5, _ => rfl
  | q + 6, h => absurd h (by omega)
