theorem wp_50 : Cond.selects RX9 yX9_rowOf yX9_rowOf ∈ gBIG := gm (List.mem_of_getElem? (i := 50) (by decide +kernel)) (by decide +kernel)
theorem wm_934 : Cond.fieldLink RX9 267 "AGapEveryTwentyModel" "lots" "I" ∈ gBIG := gm (List.mem_of_getElem? (i := 988) (by decide +kernel)) (by decide +kernel)
theorem wm_935 : Cond.fieldLink RX9 270 "AGapEveryTwentyModel" "fell" "I" ∈ gBIG := gm (List.mem_of_getElem? (i := 989) (by decide +kernel)) (by decide +kernel)
theorem wm_1206 : Cond.methodLink RX9 273 yX9_rowOf ∈ gBIG := gm (List.mem_of_getElem? (i := 1260) (by decide +kernel)) (by decide +kernel)
theorem wm_1208 : Cond.instanceMethod yX9_rowOf ∈ gBIG := gm (List.mem_of_getElem? (i := 1262) (by decide +kernel)) (by decide +kernel)
theorem wm_1209 : Cond.code yX9_rowOf cX9_rowOf 6 none ∈ gBIG := gm (List.mem_of_getElem? (i := 1263) (by decide +kernel)) (by decide +kernel)
theorem wm_1214 : Cond.methodLink RX9 276 yX9_lowest ∈ gBIG := gm (List.mem_of_getElem? (i := 1268) (by decide +kernel)) (by decide +kernel)
theorem wm_1215 : Cond.static yX9_lowest ∈ gBIG := gm (List.mem_of_getElem? (i := 1269) (by decide +kernel)) (by decide +kernel)
theorem wm_1216 : Cond.code yX9_lowest cX9_lowest 11 (some .long) ∈ gBIG := gm (List.mem_of_getElem? (i := 1270) (by decide +kernel)) (by decide +kernel)
/-! the reference's order holds every place -/
theorem mset_nf {σ : gMem} {k : Nat} {i v : Int} {k' : Nat} (h : k' ≠ k) : mset σ k i v k' = σ k' := funext fun j => mset_ne σ k i v j h
def upM (a b w j : Int) : Int := if w = 0 then a + j else if w = 1 then b - j else if j % 2 = 1 then (a + b) / 2 + (j + 1) / 2 else (a + b) / 2 - j / 2
theorem upM_c (a b w j : Int) : (w = 0 ∧ upM a b w j = a + j) ∨ (w = 1 ∧ upM a b w j = b - j) ∨ (w ≠ 0 ∧ w ≠ 1 ∧ ((j % 2 = 1 ∧ upM a b w j = (a + b) / 2 + (j + 1) / 2) ∨ (j % 2 ≠ 1 ∧ upM a b w j = (a + b) / 2 - j / 2))) := by
  unfold upM
  by_cases h : w = 0
  · rw [if_pos h]; exact Or.inl ⟨h, rfl⟩
  · rw [if_neg h]
    by_cases h2 : w = 1
    · rw [if_pos h2]; exact Or.inr (Or.inl ⟨h2, rfl⟩)
    · rw [if_neg h2]
      by_cases h3 : j % 2 = 1
      · rw [if_pos h3]; exact Or.inr (Or.inr ⟨h, h2, Or.inl ⟨h3, rfl⟩⟩)
      · rw [if_neg h3]; exact Or.inr (Or.inr ⟨h, h2, Or.inr ⟨h3, rfl⟩⟩)
theorem upM_all {a b : Int} (w : Int) {p : Int} (h1 : a ≤ p) (h2 : p ≤ b) (h3 : 0 ≤ a) : ∃ j, 0 ≤ j ∧ j < b - a + 1 ∧ upM a b w j = p := by
  by_cases h : w = 0
  · exact ⟨p - a, by omega, by omega, by have := upM_c a b w (p - a); omega⟩
  · by_cases h4 : w = 1
    · exact ⟨b - p, by omega, by omega, by have := upM_c a b w (b - p); omega⟩
    · by_cases h5 : (a + b) / 2 < p
      · exact ⟨2 * (p - (a + b) / 2) - 1, by omega, by omega, by have := upM_c a b w (2 * (p - (a + b) / 2) - 1); omega⟩
      · exact ⟨2 * ((a + b) / 2 - p), by omega, by omega, by have := upM_c a b w (2 * ((a + b) / 2 - p)); omega⟩
def PUTI (f f0 : Int → Int) (m a b w n : Int) : Prop := (∀ j, 0 ≤ j → j < n → f (m + j) = upM a b w j) ∧ ∀ i, i < m → f i = f0 i
theorem PUTI_0 {f f0 : Int → Int} (e : f = f0) (m a b w : Int) : PUTI f f0 m a b w 0 := ⟨fun j h1 h2 => absurd h1 (by omega), fun i _ => by rw [e]⟩
theorem PUTI_s {f f0 g : Int → Int} {m a b w n q v : Int} (h : PUTI f f0 m a b w n) (hg : ∀ i, g i = if i = q then v else f i) (hn : 0 ≤ n) (hq : q = m + n) (hv : v = upM a b w n) : PUTI g f0 m a b w (n + 1) := by
  refine ⟨fun j h1 h2 => ?_, fun i h1 => ?_⟩
  · rw [hg]
    by_cases e : j = n
    · rw [if_pos (by omega), e, hv]
    · rw [if_neg (by omega)]; exact h.1 j h1 (by omega)
  · rw [hg, if_neg (by omega)]; exact h.2 i h1
theorem PUTI_cg {f f0 : Int → Int} {m a b w n n2 : Int} (h : PUTI f f0 m a b w n) (e : n = n2) : PUTI f f0 m a b w n2 := e ▸ h
def NB (x a b : Int) : Prop := ∀ j, a < j → j ≤ b → ¬ iand (ishr x j) 1 = 1
theorem NB_0 (x a : Int) : NB x a a := fun j h1 h2 => absurd h1 (by omega)
theorem NB_s {x a b : Int} (h : NB x a b) (h1 : ¬ iand (ishr x (b + 1)) 1 = 1) : NB x a (b + 1) := fun j h3 h4 => by
  by_cases e : j ≤ b
  · exact h j h3 e
  · have e2 : j = b + 1 := by omega
    rw [e2]; exact h1
theorem gc_str {x a b : Int} (h : NB x a b) (h1 : ¬ iand (ishr x a) 1 = 1) (h0 : 0 ≤ a) (h2 : a ≤ b) : gc x (b + 1) = gc x a := by
  have h4 := gc_run (x := x) h0 (b + 1 - a).toNat (fun j h5 h6 => by
    by_cases e : j = a
    · rw [e]; exact h1
    · exact h j (by omega) (by omega))
  have e : a + (((b + 1 - a).toNat : Nat) : Int) = b + 1 := by omega
  rw [e] at h4
  exact h4
def COV (f : Int → Int) (x m p : Int) : Prop := ∀ q, 0 ≤ q → q < p → ¬ iand (ishr x q) 1 = 1 → ∃ i, 0 ≤ i ∧ i < m ∧ f i = q
theorem COV_0 (f : Int → Int) (x m : Int) : COV f x m 0 := fun q h1 h2 => absurd h1 (by omega)
theorem COV_gap {f : Int → Int} {x m p : Int} (h : COV f x m p) (hb : iand (ishr x p) 1 = 1) : COV f x m (p + 1) := fun q h1 h2 h3 => by
  by_cases e : q = p
  · rw [e] at h3; exact absurd hb h3
  · exact h q h1 (by omega) h3
theorem COV_cg {f : Int → Int} {x m p p2 : Int} (h : COV f x m p) (e : p = p2) : COV f x m p2 := e ▸ h
theorem GCX {x m p : Int} (h : m + gc x p ≤ p) (e : p = 16) : m + gc x 16 ≤ 16 := by rw [e] at h; exact h
theorem COV_str {f g : Int → Int} {x m p b w m2 n : Int} (h : COV f x m p) (hp : PUTI g f m p b w n) (hm : 0 ≤ m) (hn : n = b - p + 1) (h0 : 0 ≤ p) (h1 : p ≤ b) (e : m2 = m + (b - p + 1)) : COV g x m2 (b + 1) := fun q h2 h3 h4 => by
  subst hn
  by_cases e2 : q < p
  · obtain ⟨i, i1, i2, i3⟩ := h q h2 e2 h4
    exact ⟨i, i1, by omega, by rw [hp.2 i i2]; exact i3⟩
  · obtain ⟨j, j1, j2, j3⟩ := upM_all (a := p) (b := b) w (p := q) (by omega) (by omega) h0
    exact ⟨m + j, by omega, by omega, by rw [hp.1 j j1 j2]; exact j3⟩
def CO2 (f : Int → Int) (x m p : Int) : Prop := ∀ q, 0 ≤ q → q ≤ 15 → (¬ iand (ishr x q) 1 = 1 ∨ q < p) → ∃ i, 0 ≤ i ∧ i < m ∧ f i = q
theorem CO2_0 {f : Int → Int} {x x2 m : Int} (h : COV f x m 16) (e : x2 = x) : CO2 f x2 m 0 := fun q h1 h2 h3 => by
  subst e
  rcases h3 with h3 | h3
  · exact h q h1 (by omega) h3
  · omega
theorem CO2_no {f : Int → Int} {x m p : Int} (h : CO2 f x m p) (hb : ¬ iand (ishr x p) 1 = 1) : CO2 f x m (p + 1) := fun q h1 h2 h3 => by
  by_cases e : q = p
  · exact h q h1 h2 (Or.inl (by rw [e]; exact hb))
  · exact h q h1 h2 (by rcases h3 with h3 | h3; exact Or.inl h3; exact Or.inr (by omega))
theorem CO2_bit {f g : Int → Int} {x x2 m m2 p q0 : Int} (h : CO2 f x m p) (e : x2 = x) (hg : ∀ i, g i = if i = q0 then p else f i) (hq : q0 = m) (hm : 0 ≤ m) (em : m2 = m + 1) : CO2 g x2 m2 (p + 1) := fun q h1 h2 h3 => by
  subst e
  by_cases e : q = p
  · exact ⟨m, hm, by omega, by rw [hg, if_pos hq.symm, e]⟩
  · obtain ⟨i, i1, i2, i3⟩ := h q h1 h2 (by rcases h3 with h3 | h3; exact Or.inl h3; exact Or.inr (by omega))
    exact ⟨i, i1, by omega, by rw [hg, if_neg (by omega)]; exact i3⟩
theorem GE2_bit2 {x x2 m m2 p : Int} (h : GE2 x m p) (e : x2 = x) (em : m2 = m + 1) (h0 : 0 ≤ p) (hb : iand (ishr x p) 1 = 1) : GE2 x2 m2 (p + 1) := by
  subst e; subst em
  exact GE2_bit h h0 hb
theorem GE2_i {x x2 m : Int} (h : m + gc x 16 ≤ 16) (e : x2 = x) : GE2 x2 m 0 := by
  subst e
  unfold GE2
  rw [gc_0]
  omega
def ALLC (f : Int → Int) : Prop := ∀ q, 0 ≤ q → q ≤ 15 → ∃ i, 0 ≤ i ∧ i ≤ 15 ∧ f i = q
theorem ALLC_i {f : Int → Int} {x m p : Int} (h : CO2 f x m p) (hg : GE2 x m p) (hp : p = 16) : ALLC f := fun q h1 h2 => by
  obtain ⟨i, i1, i2, i3⟩ := h q h1 h2 (Or.inr (by omega))
  unfold GE2 at hg
  rw [hp] at hg
  exact ⟨i, i1, by omega, i3⟩
theorem ALLC_tr {f g : Int → Int} (e : g = f) (h : ALLC f) : ALLC g := e ▸ h
def UPTO (f : Int → Int) (st n : Int) : Prop := ∀ i, 0 ≤ i → i < n → iand (ishr st (f i)) 1 = 1
theorem UPTO_0 (f : Int → Int) (st : Int) : UPTO f st 0 := fun i h1 h2 => absurd h1 (by omega)
theorem UPTO_s {f : Int → Int} {st n : Int} (h : UPTO f st n) (hb : iand (ishr st (f n)) 1 = 1) : UPTO f st (n + 1) := fun i h1 h2 => by
  by_cases e : i = n
  · rw [e]; exact hb
  · exact h i h1 (by omega)
theorem full16 {st : Int} (h0 : 0 ≤ st) (h1 : st ≤ 65535) (h : ∀ q, 0 ≤ q → q ≤ 15 → iand (ishr st q) 1 = 1) : st = 65535 := by
  obtain ⟨n, rfl⟩ : ∃ n : Nat, st = (n : Int) := ⟨st.toNat, by omega⟩
  have hb : ∀ k : Nat, k ≤ 15 → n / 2 ^ k % 2 = 1 := fun k hk => by
    have h2 := h (k : Int) (by omega) (by omega)
    rw [ishr_N (by omega) (by omega)] at h2
    have h3 : n / 2 ^ k < 2147483648 := Nat.lt_of_le_of_lt (Nat.div_le_self _ _) (by omega)
    have h4 := iand_N (a := n / 2 ^ k) (b := 1) h3 (by decide)
    have h5 : ((1 : Nat) : Int) = 1 := rfl
    rw [h5] at h4
    rw [h4, Nat.and_one_is_mod] at h2
    omega
  have hs : ∀ k : Nat, k ≤ 15 → n / 2 ^ k = 2 * (n / 2 ^ (k + 1)) + 1 := fun k hk => by
    have h2 := hb k hk
    rw [Nat.pow_succ, ← Nat.div_div_eq_div_mul]
    omega
  have hj : ∀ j : Nat, j ≤ 16 → n / 2 ^ (16 - j) + 1 = 2 ^ j := by
    intro j
    induction j with
    | zero => intro _; have : n / 2 ^ (16 - 0) = 0 := Nat.div_eq_of_lt (by show n < 65536; omega); rw [this]
    | succ j ih =>
      intro hj
      have h2 := ih (by omega)
      have h3 := hs (16 - (j + 1)) (by omega)
      have e : 16 - (j + 1) + 1 = 16 - j := by omega
      rw [e] at h3
      rw [h3, Nat.pow_succ, ← h2]
      omega
  have h9 := hj 16 (by omega)
  have e : n / 2 ^ (16 - 16) = n := Nat.div_one n
  rw [e] at h9
  have e2 : (2 : Nat) ^ 16 = 65536 := by decide
  rw [e2] at h9
  omega
theorem UPTO_lt {f : Int → Int} {st n : Int} (ha : ALLC f) (h : UPTO f st n) (hb : iand (ishr st (f n)) 1 = 1) (h0 : 0 ≤ n) (h1 : n ≤ 15) (h2 : 0 ≤ st) (h3 : st ≤ 65535) (h4 : ¬ st = 65535) : n + 1 ≤ 15 := by
  by_cases e : n + 1 ≤ 15
  · exact e
  · exact absurd (full16 h2 h3 (fun q q1 q2 => by
      obtain ⟨i, i1, i2, i3⟩ := ha q q1 q2
      rw [← i3]
      exact UPTO_s h hb i i1 (by omega))) h4

set_option maxRecDepth 100000 in
set_option maxHeartbeats 4000000 in
theorem f_X9_puts__p_q (x0 : Int) (x1 : Int) (s0 : gMem) (hx0 : in32 x0) (hx1 : in32 x1) (hm_s0 : gMR lgM s0) (hpre0 : OR s0) (hpre1 : BE s0) (hpre2 : 0 ≤ s0 30 0 ∧ s0 30 0 ≤ 15) (hpre3 : 0 ≤ x0 ∧ x0 ≤ 15) (hpre4 : 0 ≤ x1 ∧ x1 ≤ 16) (rZ : Int) (sZ : gMem) (hres : f_X9_puts_ x0 x1 s0 = (rZ, sZ)) : (fr [27, 28, 30] s0 sZ) ∧ (gMR lgM sZ) ∧ (True) ∧ (OR sZ) ∧ (BE sZ) ∧ (sZ 30 0 = s0 30 0 + 1) ∧ (∀ i, sZ 27 i = if i = s0 30 0 then x0 else s0 27 i) := by
  have hT := f_X9_puts__e x0 x1 s0
  have hf_s0 : fr [27, 28, 30] s0 s0 := fr.rf _ _
  have hOR_s0 := hpre0
  have hBE_s0 := hpre1
  have hOR_s0 := hpre0
  have hBE_s0 := hpre1
  have hr1 := (hm_s0 30 0).1 rfl
  obtain ⟨s2, hs2, hT⟩ := glx hT
  have hf_s2 : fr [27, 28, 30] s0 s2 := hs2 ▸ hf_s0.set (by decide)
  have hm_s2 : gMR lgM s2 := hs2 ▸ hm_s0.set32 rfl (by omega)
  have hOR_s2 : OR s2 := hs2 ▸ OR_set hOR_s0 (by omega)
  have hBE_s2 : BE s2 := fun i => by rw [hs2, mset_ne _ _ _ _ _ (by decide)]; exact hBE_s0 i
  have ht3 : s2 30 0 = s0 30 0 := by rw [hs2]; exact mset_ne _ _ _ _ _ (by decide)
  have hr4 := (hm_s2 30 0).1 rfl
  obtain ⟨s5, hs5, hT⟩ := glx hT
  have hf_s5 : fr [27, 28, 30] s0 s5 := hs5 ▸ hf_s2.set (by decide)
  have hm_s5 : gMR lgM s5 := hs5 ▸ hm_s2.set32 rfl (by omega)
  have hOR_s5 : OR s5 := fun i => by rw [hs5, mset_ne _ _ _ _ _ (by decide)]; exact hOR_s2 i
  have hBE_s5 : BE s5 := hs5 ▸ BE_set hBE_s2 (by omega)
  have ht6 : s5 30 0 = s2 30 0 := by rw [hs5]; exact mset_ne _ _ _ _ _ (by decide)
  have hr7 := (hm_s5 30 0).1 rfl
  obtain ⟨s8, hs8, hT⟩ := glx hT
  have hf_s8 : fr [27, 28, 30] s0 s8 := hs8 ▸ hf_s5.set (by decide)
  have hm_s8 : gMR lgM s8 := hs8 ▸ hm_s5.set32 rfl (by omega)
  have hOR_s8 : OR s8 := fun i => by rw [hs8, mset_ne _ _ _ _ _ (by decide)]; exact hOR_s5 i
  have hBE_s8 : BE s8 := fun i => by rw [hs8, mset_ne _ _ _ _ _ (by decide)]; exact hBE_s5 i
  have ht9 : s8 30 0 = ((s5 30 0) + 1) := by rw [hs8]; exact mset_eq _ _ _ _
  obtain ⟨rfl, rfl⟩ := Prod.mk.inj (hT.symm.trans hres)
  exact ⟨hf_s8, hm_s8, trivial, hOR_s8, hBE_s8, (by first | assumption | omega), (by intro i; subst_vars; rw [mset_ne _ _ _ _ _ (by decide), mset_ne _ _ _ _ _ (by decide), mset_at])⟩

set_option maxRecDepth 100000 in
set_option maxHeartbeats 4000000 in
theorem f_X9_putsStretch_p_q (x0 : Int) (x1 : Int) (x2 : Int) (s0 : gMem) (hx0 : in32 x0) (hx1 : in32 x1) (hx2 : in32 x2) (hm_s0 : gMR lgM s0) (hpre0 : OR s0) (hpre1 : BE s0) (hpre2 : FI s0) (hpre3 : 0 ≤ x0 ∧ x0 ≤ x1 ∧ x1 ≤ 15) (hpre4 : 0 ≤ x2 ∧ x2 ≤ 2) (hpre5 : 0 ≤ s0 30 0 ∧ s0 30 0 + (x1 - x0 + 1) ≤ 16) (hpre6 : 0 ≤ s0 31 0 ∧ s0 31 0 ≤ 15) (hpre7 : -1 ≤ s0 33 0 ∧ s0 33 0 ≤ 15 ∧ 0 ≤ s0 32 0 ∧ s0 32 0 ≤ 16) (rZ : Int) (sZ : gMem) (hres : f_X9_putsStretch x0 x1 x2 s0 = (rZ, sZ)) : (fr [27, 28, 29, 30, 31, 32, 33] s0 sZ) ∧ (gMR lgM sZ) ∧ (True) ∧ (OR sZ) ∧ (BE sZ) ∧ (FI sZ) ∧ (sZ 30 0 = s0 30 0 + (x1 - x0 + 1)) ∧ (sZ 31 0 = s0 31 0 + 1) ∧ (-1 ≤ sZ 33 0 ∧ sZ 33 0 ≤ 15 ∧ 0 ≤ sZ 32 0 ∧ sZ 32 0 ≤ 16) ∧ (PUTI (sZ 27) (s0 27) (s0 30 0) x0 x1 x2 (x1 - x0 + 1)) := by
  have hT := f_X9_putsStretch_e x0 x1 x2 s0
  have hf_s0 : fr [27, 28, 29, 30, 31, 32, 33] s0 s0 := fr.rf _ _
  have hOR_s0 := hpre0
  have hBE_s0 := hpre1
  have hFI_s0 := hpre2
  have hOR_s0 := hpre0
  have hBE_s0 := hpre1
  have hFI_s0 := hpre2
  have hd1 : (0 : Int) ≤ (x0 + x1) := (by omega)
  have hd2 : (0 : Int) < 2 := (by omega)
  have hb3 := dv_rg hd1 hd2
  have hr4 := (hm_s0 31 0).1 rfl
  have hr5 := (hm_s0 30 0).1 rfl
  obtain ⟨s6, hs6, hT⟩ := glx hT
  have hf_s6 : fr [27, 28, 29, 30, 31, 32, 33] s0 s6 := hs6 ▸ hf_s0.set (by decide)
  have hm_s6 : gMR lgM s6 := hs6 ▸ hm_s0.set32 rfl (by omega)
  have hOR_s6 : OR s6 := fun i => by rw [hs6, mset_ne _ _ _ _ _ (by decide)]; exact hOR_s0 i
  have hBE_s6 : BE s6 := fun i => by rw [hs6, mset_ne _ _ _ _ _ (by decide)]; exact hBE_s0 i
  have hFI_s6 : FI s6 := hs6 ▸ FI_set hFI_s0 (by omega)
  have ht7 : s6 30 0 = s0 30 0 := by rw [hs6]; exact mset_ne _ _ _ _ _ (by decide)
  have ht8 : s6 31 0 = s0 31 0 := by rw [hs6]; exact mset_ne _ _ _ _ _ (by decide)
  have ht9 : s6 32 0 = s0 32 0 := by rw [hs6]; exact mset_ne _ _ _ _ _ (by decide)
  have ht10 : s6 33 0 = s0 33 0 := by rw [hs6]; exact mset_ne _ _ _ _ _ (by decide)
  have htf27_s6 : s6 27 = s0 27 := (by rw [hs6]; exact mset_nf (by decide))
  have hr11 := (hm_s6 31 0).1 rfl
  obtain ⟨s12, hs12, hT⟩ := glx hT
  have hf_s12 : fr [27, 28, 29, 30, 31, 32, 33] s0 s12 := hs12 ▸ hf_s6.set (by decide)
  have hm_s12 : gMR lgM s12 := hs12 ▸ hm_s6.set32 rfl (by omega)
  have hOR_s12 : OR s12 := fun i => by rw [hs12, mset_ne _ _ _ _ _ (by decide)]; exact hOR_s6 i
  have hBE_s12 : BE s12 := fun i => by rw [hs12, mset_ne _ _ _ _ _ (by decide)]; exact hBE_s6 i
  have hFI_s12 : FI s12 := fun i => by rw [hs12, mset_ne _ _ _ _ _ (by decide)]; exact hFI_s6 i
  have ht13 : s12 30 0 = s6 30 0 := by rw [hs12]; exact mset_ne _ _ _ _ _ (by decide)
  have ht14 : s12 31 0 = ((s6 31 0) + 1) := by rw [hs12]; exact mset_eq _ _ _ _
  have ht15 : s12 32 0 = s6 32 0 := by rw [hs12]; exact mset_ne _ _ _ _ _ (by decide)
  have ht16 : s12 33 0 = s6 33 0 := by rw [hs12]; exact mset_ne _ _ _ _ _ (by decide)
  have htf27_s12 : s12 27 = s0 27 := ((by rw [hs12]; exact mset_nf (by decide)) : s12 27 = s6 27).trans htf27_s6
  have hr17 := (hm_s12 32 0).1 rfl
  obtain ⟨z131, hz131, hT⟩ := gl1x hT
  have j19 : ∀ (v20 : Int), ((in32 v20)) → z131 = v20 → (fr [27, 28, 29, 30, 31, 32, 33] s0 sZ) ∧ (gMR lgM sZ) ∧ (True) ∧ (OR sZ) ∧ (BE sZ) ∧ (FI sZ) ∧ (sZ 30 0 = s0 30 0 + (x1 - x0 + 1)) ∧ (sZ 31 0 = s0 31 0 + 1) ∧ (-1 ≤ sZ 33 0 ∧ sZ 33 0 ≤ 15 ∧ 0 ≤ sZ 32 0 ∧ sZ 32 0 ≤ 16) ∧ (PUTI (sZ 27) (s0 27) (s0 30 0) x0 x1 x2 (x1 - x0 + 1)) := by
    intro v20 hq hz
    have hq130 := hq
    replace hT := gl1y hT hz
    obtain ⟨s21, hs21, hT⟩ := glx hT
    have hf_s21 : fr [27, 28, 29, 30, 31, 32, 33] s0 s21 := hs21 ▸ hf_s12.set (by decide)
    have hm_s21 : gMR lgM s21 := hs21 ▸ hm_s12.set32 rfl (by omega)
    have hOR_s21 : OR s21 := fun i => by rw [hs21, mset_ne _ _ _ _ _ (by decide)]; exact hOR_s12 i
    have hBE_s21 : BE s21 := fun i => by rw [hs21, mset_ne _ _ _ _ _ (by decide)]; exact hBE_s12 i
    have hFI_s21 : FI s21 := fun i => by rw [hs21, mset_ne _ _ _ _ _ (by decide)]; exact hFI_s12 i
    have ht22 : s21 30 0 = s12 30 0 := by rw [hs21]; exact mset_ne _ _ _ _ _ (by decide)
    have ht23 : s21 31 0 = s12 31 0 := by rw [hs21]; exact mset_ne _ _ _ _ _ (by decide)
    have ht24 : s21 32 0 = s12 32 0 := by rw [hs21]; exact mset_ne _ _ _ _ _ (by decide)
    have ht25 : s21 33 0 = v20 := by rw [hs21]; exact mset_eq _ _ _ _
    have htf27_s21 : s21 27 = s0 27 := ((by rw [hs21]; exact mset_nf (by decide)) : s21 27 = s12 27).trans htf27_s12
    have hr26 := (hm_s21 32 0).1 rfl
    obtain ⟨z128, hz128, hT⟩ := gl1x hT
    have j28 : ∀ (v29 : Int), ((in32 v29)) → z128 = v29 → (fr [27, 28, 29, 30, 31, 32, 33] s0 sZ) ∧ (gMR lgM sZ) ∧ (True) ∧ (OR sZ) ∧ (BE sZ) ∧ (FI sZ) ∧ (sZ 30 0 = s0 30 0 + (x1 - x0 + 1)) ∧ (sZ 31 0 = s0 31 0 + 1) ∧ (-1 ≤ sZ 33 0 ∧ sZ 33 0 ≤ 15 ∧ 0 ≤ sZ 32 0 ∧ sZ 32 0 ≤ 16) ∧ (PUTI (sZ 27) (s0 27) (s0 30 0) x0 x1 x2 (x1 - x0 + 1)) := by
      intro v29 hq hz
      have hq127 := hq
      replace hT := gl1y hT hz
      obtain ⟨s30, hs30, hT⟩ := glx hT
      have hf_s30 : fr [27, 28, 29, 30, 31, 32, 33] s0 s30 := hs30 ▸ hf_s21.set (by decide)
      have hm_s30 : gMR lgM s30 := hs30 ▸ hm_s21.set32 rfl (by omega)
      have hOR_s30 : OR s30 := fun i => by rw [hs30, mset_ne _ _ _ _ _ (by decide)]; exact hOR_s21 i
      have hBE_s30 : BE s30 := fun i => by rw [hs30, mset_ne _ _ _ _ _ (by decide)]; exact hBE_s21 i
      have hFI_s30 : FI s30 := fun i => by rw [hs30, mset_ne _ _ _ _ _ (by decide)]; exact hFI_s21 i
      have ht31 : s30 30 0 = s21 30 0 := by rw [hs30]; exact mset_ne _ _ _ _ _ (by decide)
      have ht32 : s30 31 0 = s21 31 0 := by rw [hs30]; exact mset_ne _ _ _ _ _ (by decide)
      have ht33 : s30 32 0 = v29 := by rw [hs30]; exact mset_eq _ _ _ _
      have ht34 : s30 33 0 = s21 33 0 := by rw [hs30]; exact mset_ne _ _ _ _ _ (by decide)
      have htf27_s30 : s30 27 = s0 27 := ((by rw [hs30]; exact mset_nf (by decide)) : s30 27 = s21 27).trans htf27_s21
      have L69 : ∀ (n70 : Nat) (v67 : Int) (s68 : gMem), ((in32 v67) ∧ (fr [27, 28, 29, 30, 31, 32, 33] s0 s68) ∧ (gMR lgM s68) ∧ (OR s68) ∧ (BE s68) ∧ (FI s68) ∧ (s68 31 0 = s30 31 0) ∧ (s68 32 0 = s30 32 0) ∧ (s68 33 0 = s30 33 0) ∧ (0 ≤ v67 ∧ v67 ≤ x1 - x0 + 1) ∧ (s68 30 0 = s0 30 0 + v67) ∧ (PUTI (s68 27) (s0 27) (s0 30 0) x0 x1 x2 v67)) → x1 - x0 + 1 - v67 < (n70 : Int) → (∀ (w71 : Int) (s72 : gMem), (w_X9_putsStretch_83 x0 x1 x2 ((x1 - x0) + 1) ((x0 + x1) / 2) n70 v67 s68) = (w71, s72) → ((in32 w71) ∧ (fr [27, 28, 29, 30, 31, 32, 33] s0 s72) ∧ (gMR lgM s72) ∧ (OR s72) ∧ (BE s72) ∧ (FI s72) ∧ (s72 31 0 = s30 31 0) ∧ (s72 32 0 = s30 32 0) ∧ (s72 33 0 = s30 33 0) ∧ (0 ≤ w71 ∧ w71 ≤ x1 - x0 + 1) ∧ (s72 30 0 = s0 30 0 + w71) ∧ (PUTI (s72 27) (s0 27) (s0 30 0) x0 x1 x2 w71) ∧ (x1 - x0 + 1 ≤ w71) ∧ (w71 = x1 - x0 + 1)) → (fr [27, 28, 29, 30, 31, 32, 33] s0 sZ) ∧ (gMR lgM sZ) ∧ (True) ∧ (OR sZ) ∧ (BE sZ) ∧ (FI sZ) ∧ (sZ 30 0 = s0 30 0 + (x1 - x0 + 1)) ∧ (sZ 31 0 = s0 31 0 + 1) ∧ (-1 ≤ sZ 33 0 ∧ sZ 33 0 ≤ 15 ∧ 0 ≤ sZ 32 0 ∧ sZ 32 0 ≤ 16) ∧ (PUTI (sZ 27) (s0 27) (s0 30 0) x0 x1 x2 (x1 - x0 + 1))) → (fr [27, 28, 29, 30, 31, 32, 33] s0 sZ) ∧ (gMR lgM sZ) ∧ (True) ∧ (OR sZ) ∧ (BE sZ) ∧ (FI sZ) ∧ (sZ 30 0 = s0 30 0 + (x1 - x0 + 1)) ∧ (sZ 31 0 = s0 31 0 + 1) ∧ (-1 ≤ sZ 33 0 ∧ sZ 33 0 ≤ 15 ∧ 0 ≤ sZ 32 0 ∧ sZ 32 0 ≤ 16) ∧ (PUTI (sZ 27) (s0 27) (s0 30 0) x0 x1 x2 (x1 - x0 + 1)) := by
        intro n70; induction n70 with
        | zero =>
          intro v67 s68 hq hm hk
          exfalso
          obtain ⟨hq102, hf_s68, hm_s68, hOR_s68, hBE_s68, hFI_s68, hq103, hq104, hq105, hq106, hq107, hq108⟩ := hq
          omega
        | succ n70 ih =>
          intro v67 s68 hq hm hk
          obtain ⟨hq109, hf_s68, hm_s68, hOR_s68, hBE_s68, hFI_s68, hq110, hq111, hq112, hq113, hq114, hq115⟩ := hq
          have hT := w_X9_putsStretch_83_s x0 x1 x2 ((x1 - x0) + 1) ((x0 + x1) / 2) n70 v67 s68
          by_cases h73 : v67 < ((x1 - x0) + 1)
          · replace hT := hT.trans (if_pos h73)
            obtain ⟨z90, hz90, hT⟩ := gl1x hT
            have j75 : ∀ (v76 : Int), ((in32 v76) ∧ (0 ≤ v76 ∧ v76 ≤ 15) ∧ (v76 = upM x0 x1 x2 v67)) → z90 = v76 → (fr [27, 28, 29, 30, 31, 32, 33] s0 sZ) ∧ (gMR lgM sZ) ∧ (True) ∧ (OR sZ) ∧ (BE sZ) ∧ (FI sZ) ∧ (sZ 30 0 = s0 30 0 + (x1 - x0 + 1)) ∧ (sZ 31 0 = s0 31 0 + 1) ∧ (-1 ≤ sZ 33 0 ∧ sZ 33 0 ≤ 15 ∧ 0 ≤ sZ 32 0 ∧ sZ 32 0 ≤ 16) ∧ (PUTI (sZ 27) (s0 27) (s0 30 0) x0 x1 x2 (x1 - x0 + 1)) := by
              intro v76 hq hz
              obtain ⟨hq87, hq88, hq89⟩ := hq
              replace hT := gl1y hT hz
              obtain ⟨r78, s79, hs79⟩ : ∃ rr ss, (f_X9_puts_ v76 v67 s68) = (rr, ss) := ⟨_, _, rfl⟩
              replace hT := gby hT hs79
              have hp80 := f_X9_puts__p_q v76 v67 s68 (by omega) (by omega) hm_s68 hOR_s68 hBE_s68 (by first | assumption | omega) (by first | assumption | omega) (by first | assumption | omega) r78 s79 hs79
              obtain ⟨hfc_s79, hm_s79, hp81, hOR_s79, hBE_s79, hp82, hp83⟩ := hp80
              have hf_s79 : fr [27, 28, 29, 30, 31, 32, 33] s0 s79 := hf_s68.call (by decide) hfc_s79
              have hFI_s79 : FI s79 := fun i => by rw [hfc_s79 29 (by decide)]; exact hFI_s68 i
              have ht84 : s79 31 0 = s68 31 0 := by rw [hfc_s79 31 (by decide)]
              have ht85 : s79 32 0 = s68 32 0 := by rw [hfc_s79 32 (by decide)]
              have ht86 : s79 33 0 = s68 33 0 := by rw [hfc_s79 33 (by decide)]
              exact ih (v67 + 1) s79 ⟨(by omega), hf_s79, hm_s79, hOR_s79, hBE_s79, hFI_s79, (by first | assumption | omega), (by first | assumption | omega), (by first | assumption | omega), (by first | assumption | omega), (by first | assumption | omega), (by first | assumption | exact PUTI_0 (by assumption) _ _ _ _ | exact PUTI_s (by assumption) (by assumption) (by omega) (by omega) (by assumption) | exact PUTI_cg (by assumption) (by omega))⟩ (by omega) (fun w71 s72 hw hi => hk w71 s72 (hT.trans hw) hi)
            replace hT := hz90
            by_cases h74 : x2 = 0
            · replace hT := hT.trans (if_pos h74)
              exact j75 (x0 + v67) ⟨(by omega), (by first | assumption | omega), (by unfold upM; (repeat' split) <;> omega)⟩ hT
            · replace hT := hT.trans (if_neg h74)
              by_cases h91 : x2 = 1
              · replace hT := hT.trans (if_pos h91)
                exact j75 (x1 - v67) ⟨(by omega), (by first | assumption | omega), (by unfold upM; (repeat' split) <;> omega)⟩ hT
              · replace hT := hT.trans (if_neg h91)
                have hd92 : (0 : Int) ≤ v67 := (by omega)
                have hd93 : (0 : Int) < 2 := (by omega)
                have hb94 := rm_rg (x := v67) hd93
                by_cases h95 : (v67 % 2) = 1
                · replace hT := hT.trans (if_pos h95)
                  have hd96 : (0 : Int) ≤ (v67 + 1) := (by omega)
                  have hd97 : (0 : Int) < 2 := (by omega)
                  have hb98 := dv_rg hd96 hd97
                  exact j75 (((x0 + x1) / 2) + ((v67 + 1) / 2)) ⟨(by omega), (by first | assumption | omega), (by unfold upM; (repeat' split) <;> omega)⟩ hT
                · replace hT := hT.trans (if_neg h95)
                  have hd99 : (0 : Int) ≤ v67 := (by omega)
                  have hd100 : (0 : Int) < 2 := (by omega)
                  have hb101 := dv_rg hd99 hd100
                  exact j75 (((x0 + x1) / 2) - (v67 / 2)) ⟨(by omega), (by first | assumption | omega), (by unfold upM; (repeat' split) <;> omega)⟩ hT
          · replace hT := hT.trans (if_neg h73)
            exact hk v67 s68 hT ⟨(by omega), hf_s68, hm_s68, hOR_s68, hBE_s68, hFI_s68, (by first | assumption | omega), (by first | assumption | omega), (by first | assumption | omega), (by first | assumption | omega), (by first | assumption | omega), (by first | assumption | exact PUTI_0 (by assumption) _ _ _ _ | exact PUTI_s (by assumption) (by assumption) (by omega) (by omega) (by assumption) | exact PUTI_cg (by assumption) (by omega)), (by first | assumption | omega), (by first | assumption | omega)⟩
      refine L69 17 0 s30 ⟨(by omega), hf_s30, hm_s30, hOR_s30, hBE_s30, hFI_s30, (by first | assumption | omega), (by first | assumption | omega), (by first | assumption | omega), (by first | assumption | omega), (by first | assumption | omega), (by first | assumption | exact PUTI_0 (by assumption) _ _ _ _ | exact PUTI_s (by assumption) (by assumption) (by omega) (by omega) (by assumption) | exact PUTI_cg (by assumption) (by omega))⟩ (by omega) (fun v116 s117 hw hq => ?_)
      obtain ⟨hq118, hf_s117, hm_s117, hOR_s117, hBE_s117, hFI_s117, hq119, hq120, hq121, hq122, hq123, hq124, hq125, hq126⟩ := hq
      replace hT := gl2y hT hw
      obtain ⟨rfl, rfl⟩ := Prod.mk.inj (hT.symm.trans hres)
      exact ⟨hf_s117, hm_s117, trivial, hOR_s117, hBE_s117, hFI_s117, (by first | assumption | omega), (by first | assumption | omega), (by first | assumption | omega), (by first | assumption | exact PUTI_0 (by assumption) _ _ _ _ | exact PUTI_s (by assumption) (by assumption) (by omega) (by omega) (by assumption) | exact PUTI_cg (by assumption) (by omega))⟩
    replace hT := hz128
    by_cases h27 : (s21 32 0) < ((x1 - x0) + 1)
    · replace hT := hT.trans (if_pos h27)
      exact j28 ((x1 - x0) + 1) (by omega) hT
    · replace hT := hT.trans (if_neg h27)
      have hr129 := (hm_s21 32 0).1 rfl
      exact j28 (s21 32 0) (by omega) hT
  replace hT := hz131
  by_cases h18 : (s12 32 0) < ((x1 - x0) + 1)
  · replace hT := hT.trans (if_pos h18)
    exact j19 x0 (by omega) hT
  · replace hT := hT.trans (if_neg h18)
    have hr132 := (hm_s12 33 0).1 rfl
    exact j19 (s12 33 0) (by omega) hT

set_option maxRecDepth 100000 in
set_option maxHeartbeats 4000000 in
theorem f_X9_orders_p_q (x0 : Int) (x1 : Int) (s0 : gMem) (hx0 : in32 x0) (hx1 : in32 x1) (hm_s0 : gMR lgM s0) (hpre0 : OR s0) (hpre1 : BE s0) (hpre2 : FI s0) (hpre3 : 0 ≤ x1 ∧ x1 ≤ 2) (rZ : Int) (sZ : gMem) (hres : f_X9_orders x0 x1 s0 = (rZ, sZ)) : (fr [27, 28, 29, 30, 31, 32, 33] s0 sZ) ∧ (gMR lgM sZ) ∧ (True) ∧ (OR sZ) ∧ (BE sZ) ∧ (FI sZ) ∧ (0 ≤ sZ 30 0 ∧ sZ 30 0 ≤ 16) ∧ (0 ≤ sZ 31 0 ∧ sZ 31 0 ≤ 16) ∧ (-1 ≤ sZ 33 0 ∧ sZ 33 0 ≤ 15 ∧ 0 ≤ sZ 32 0 ∧ sZ 32 0 ≤ 16) ∧ (COV (sZ 27) x0 (sZ 30 0) 16) ∧ (sZ 30 0 + gc x0 16 ≤ 16) := by
  have hT := f_X9_orders_e x0 x1 s0
  have hf_s0 : fr [27, 28, 29, 30, 31, 32, 33] s0 s0 := fr.rf _ _
  have hOR_s0 := hpre0
  have hBE_s0 := hpre1
  have hFI_s0 := hpre2
  have kg0 := gc_0 x0
  obtain ⟨s1, hs1, hT⟩ := glx hT
  have hf_s1 : fr [27, 28, 29, 30, 31, 32, 33] s0 s1 := hs1 ▸ hf_s0.set (by decide)
  have hm_s1 : gMR lgM s1 := hs1 ▸ hm_s0.set32 rfl (by omega)
  have hOR_s1 : OR s1 := fun i => by rw [hs1, mset_ne _ _ _ _ _ (by decide)]; exact hOR_s0 i
  have hBE_s1 : BE s1 := fun i => by rw [hs1, mset_ne _ _ _ _ _ (by decide)]; exact hBE_s0 i
  have hFI_s1 : FI s1 := fun i => by rw [hs1, mset_ne _ _ _ _ _ (by decide)]; exact hFI_s0 i
  have ht2 : s1 30 0 = 0 := by rw [hs1]; exact mset_eq _ _ _ _
  have ht3 : s1 31 0 = s0 31 0 := by rw [hs1]; exact mset_ne _ _ _ _ _ (by decide)
  have ht4 : s1 32 0 = s0 32 0 := by rw [hs1]; exact mset_ne _ _ _ _ _ (by decide)
  have ht5 : s1 33 0 = s0 33 0 := by rw [hs1]; exact mset_ne _ _ _ _ _ (by decide)
  have htf27_s1 : s1 27 = s0 27 := (by rw [hs1]; exact mset_nf (by decide))
  obtain ⟨s6, hs6, hT⟩ := glx hT
  have hf_s6 : fr [27, 28, 29, 30, 31, 32, 33] s0 s6 := hs6 ▸ hf_s1.set (by decide)
  have hm_s6 : gMR lgM s6 := hs6 ▸ hm_s1.set32 rfl (by omega)
  have hOR_s6 : OR s6 := fun i => by rw [hs6, mset_ne _ _ _ _ _ (by decide)]; exact hOR_s1 i
  have hBE_s6 : BE s6 := fun i => by rw [hs6, mset_ne _ _ _ _ _ (by decide)]; exact hBE_s1 i
  have hFI_s6 : FI s6 := fun i => by rw [hs6, mset_ne _ _ _ _ _ (by decide)]; exact hFI_s1 i
  have ht7 : s6 30 0 = s1 30 0 := by rw [hs6]; exact mset_ne _ _ _ _ _ (by decide)
  have ht8 : s6 31 0 = 0 := by rw [hs6]; exact mset_eq _ _ _ _
  have ht9 : s6 32 0 = s1 32 0 := by rw [hs6]; exact mset_ne _ _ _ _ _ (by decide)
  have ht10 : s6 33 0 = s1 33 0 := by rw [hs6]; exact mset_ne _ _ _ _ _ (by decide)
  have htf27_s6 : s6 27 = s0 27 := ((by rw [hs6]; exact mset_nf (by decide)) : s6 27 = s1 27).trans htf27_s1
  obtain ⟨s11, hs11, hT⟩ := glx hT
  have hf_s11 : fr [27, 28, 29, 30, 31, 32, 33] s0 s11 := hs11 ▸ hf_s6.set (by decide)
  have hm_s11 : gMR lgM s11 := hs11 ▸ hm_s6.set32 rfl (by omega)
  have hOR_s11 : OR s11 := fun i => by rw [hs11, mset_ne _ _ _ _ _ (by decide)]; exact hOR_s6 i
  have hBE_s11 : BE s11 := fun i => by rw [hs11, mset_ne _ _ _ _ _ (by decide)]; exact hBE_s6 i
  have hFI_s11 : FI s11 := fun i => by rw [hs11, mset_ne _ _ _ _ _ (by decide)]; exact hFI_s6 i
  have ht12 : s11 30 0 = s6 30 0 := by rw [hs11]; exact mset_ne _ _ _ _ _ (by decide)
  have ht13 : s11 31 0 = s6 31 0 := by rw [hs11]; exact mset_ne _ _ _ _ _ (by decide)
  have ht14 : s11 32 0 = 0 := by rw [hs11]; exact mset_eq _ _ _ _
  have ht15 : s11 33 0 = s6 33 0 := by rw [hs11]; exact mset_ne _ _ _ _ _ (by decide)
  have htf27_s11 : s11 27 = s0 27 := ((by rw [hs11]; exact mset_nf (by decide)) : s11 27 = s6 27).trans htf27_s6
  obtain ⟨s16, hs16, hT⟩ := glx hT
  have hf_s16 : fr [27, 28, 29, 30, 31, 32, 33] s0 s16 := hs16 ▸ hf_s11.set (by decide)
  have hm_s16 : gMR lgM s16 := hs16 ▸ hm_s11.set32 rfl (by omega)
  have hOR_s16 : OR s16 := fun i => by rw [hs16, mset_ne _ _ _ _ _ (by decide)]; exact hOR_s11 i
  have hBE_s16 : BE s16 := fun i => by rw [hs16, mset_ne _ _ _ _ _ (by decide)]; exact hBE_s11 i
  have hFI_s16 : FI s16 := fun i => by rw [hs16, mset_ne _ _ _ _ _ (by decide)]; exact hFI_s11 i
  have ht17 : s16 30 0 = s11 30 0 := by rw [hs16]; exact mset_ne _ _ _ _ _ (by decide)
  have ht18 : s16 31 0 = s11 31 0 := by rw [hs16]; exact mset_ne _ _ _ _ _ (by decide)
  have ht19 : s16 32 0 = s11 32 0 := by rw [hs16]; exact mset_ne _ _ _ _ _ (by decide)
  have ht20 : s16 33 0 = (-1) := by rw [hs16]; exact mset_eq _ _ _ _
  have htf27_s16 : s16 27 = s0 27 := ((by rw [hs16]; exact mset_nf (by decide)) : s16 27 = s11 27).trans htf27_s11
  have L79 : ∀ (n80 : Nat) (v77 : Int) (s78 : gMem), ((in32 v77) ∧ (fr [27, 28, 29, 30, 31, 32, 33] s0 s78) ∧ (gMR lgM s78) ∧ (OR s78) ∧ (BE s78) ∧ (FI s78) ∧ (0 ≤ v77 ∧ v77 ≤ 16) ∧ (0 ≤ s78 30 0 ∧ s78 30 0 ≤ v77) ∧ (0 ≤ s78 31 0 ∧ s78 31 0 ≤ v77) ∧ (-1 ≤ s78 33 0 ∧ s78 33 0 ≤ 15 ∧ 0 ≤ s78 32 0 ∧ s78 32 0 ≤ 16) ∧ (COV (s78 27) x0 (s78 30 0) v77) ∧ (s78 30 0 + gc x0 v77 ≤ v77)) → 16 - v77 < (n80 : Int) → (∀ (w81 : Int) (s82 : gMem), (w_X9_orders_22 x0 x1 n80 v77 s78) = (w81, s82) → ((in32 w81) ∧ (fr [27, 28, 29, 30, 31, 32, 33] s0 s82) ∧ (gMR lgM s82) ∧ (OR s82) ∧ (BE s82) ∧ (FI s82) ∧ (0 ≤ w81 ∧ w81 ≤ 16) ∧ (0 ≤ s82 30 0 ∧ s82 30 0 ≤ w81) ∧ (0 ≤ s82 31 0 ∧ s82 31 0 ≤ w81) ∧ (-1 ≤ s82 33 0 ∧ s82 33 0 ≤ 15 ∧ 0 ≤ s82 32 0 ∧ s82 32 0 ≤ 16) ∧ (COV (s82 27) x0 (s82 30 0) w81) ∧ (s82 30 0 + gc x0 w81 ≤ w81) ∧ (w81 = 16)) → (fr [27, 28, 29, 30, 31, 32, 33] s0 sZ) ∧ (gMR lgM sZ) ∧ (True) ∧ (OR sZ) ∧ (BE sZ) ∧ (FI sZ) ∧ (0 ≤ sZ 30 0 ∧ sZ 30 0 ≤ 16) ∧ (0 ≤ sZ 31 0 ∧ sZ 31 0 ≤ 16) ∧ (-1 ≤ sZ 33 0 ∧ sZ 33 0 ≤ 15 ∧ 0 ≤ sZ 32 0 ∧ sZ 32 0 ≤ 16) ∧ (COV (sZ 27) x0 (sZ 30 0) 16) ∧ (sZ 30 0 + gc x0 16 ≤ 16)) → (fr [27, 28, 29, 30, 31, 32, 33] s0 sZ) ∧ (gMR lgM sZ) ∧ (True) ∧ (OR sZ) ∧ (BE sZ) ∧ (FI sZ) ∧ (0 ≤ sZ 30 0 ∧ sZ 30 0 ≤ 16) ∧ (0 ≤ sZ 31 0 ∧ sZ 31 0 ≤ 16) ∧ (-1 ≤ sZ 33 0 ∧ sZ 33 0 ≤ 15 ∧ 0 ≤ sZ 32 0 ∧ sZ 32 0 ≤ 16) ∧ (COV (sZ 27) x0 (sZ 30 0) 16) ∧ (sZ 30 0 + gc x0 16 ≤ 16) := by
    intro n80; induction n80 with
    | zero =>
      intro v77 s78 hq hm hk
      exfalso
      obtain ⟨hq136, hf_s78, hm_s78, hOR_s78, hBE_s78, hFI_s78, hq137, hq138, hq139, hq140, hq141, hq142⟩ := hq
      omega
    | succ n80 ih =>
      intro v77 s78 hq hm hk
      obtain ⟨hq143, hf_s78, hm_s78, hOR_s78, hBE_s78, hFI_s78, hq144, hq145, hq146, hq147, hq148, hq149⟩ := hq
      have hT := w_X9_orders_22_s x0 x1 n80 v77 s78
      by_cases h83 : v77 < 16
      · replace hT := hT.trans (if_pos h83)
        have L99 : ∀ (n100 : Nat) (v98 : Int), ((in32 v98) ∧ (v77 ≤ v98 ∧ v98 ≤ 15) ∧ (NB x0 v77 v98)) → 15 - v98 < (n100 : Int) → (∀ (w101 : Int), (w_X9_orders_31 x0 x1 v77 s78 n100 v98) = w101 → ((in32 w101) ∧ (v77 ≤ w101 ∧ w101 ≤ 15) ∧ (NB x0 v77 w101)) → (fr [27, 28, 29, 30, 31, 32, 33] s0 sZ) ∧ (gMR lgM sZ) ∧ (True) ∧ (OR sZ) ∧ (BE sZ) ∧ (FI sZ) ∧ (0 ≤ sZ 30 0 ∧ sZ 30 0 ≤ 16) ∧ (0 ≤ sZ 31 0 ∧ sZ 31 0 ≤ 16) ∧ (-1 ≤ sZ 33 0 ∧ sZ 33 0 ≤ 15 ∧ 0 ≤ sZ 32 0 ∧ sZ 32 0 ≤ 16) ∧ (COV (sZ 27) x0 (sZ 30 0) 16) ∧ (sZ 30 0 + gc x0 16 ≤ 16)) → (fr [27, 28, 29, 30, 31, 32, 33] s0 sZ) ∧ (gMR lgM sZ) ∧ (True) ∧ (OR sZ) ∧ (BE sZ) ∧ (FI sZ) ∧ (0 ≤ sZ 30 0 ∧ sZ 30 0 ≤ 16) ∧ (0 ≤ sZ 31 0 ∧ sZ 31 0 ≤ 16) ∧ (-1 ≤ sZ 33 0 ∧ sZ 33 0 ≤ 15 ∧ 0 ≤ sZ 32 0 ∧ sZ 32 0 ≤ 16) ∧ (COV (sZ 27) x0 (sZ 30 0) 16) ∧ (sZ 30 0 + gc x0 16 ≤ 16) := by
          intro n100; induction n100 with
          | zero =>
            intro v98 hq hm hk
            exfalso
            obtain ⟨hq114, hq115, hq116⟩ := hq
            omega
          | succ n100 ih =>
            intro v98 hq hm hk
            obtain ⟨hq117, hq118, hq119⟩ := hq
            have hT := w_X9_orders_31_s x0 x1 v77 s78 n100 v98
            have hp103 := f_X9_doesStop_p v77 s78 (by omega) hm_s78 (by first | assumption | omega)
            by_cases h104 : (f_X9_doesStop v77 s78) = 0
            · replace hT := hT.trans (if_pos h104)
              by_cases h105 : (v98 + 1) < 16
              · replace hT := hT.trans (if_pos h105)
                have hp107 := f_X9_isIn_p x0 (v98 + 1) (by omega) (by omega) 
                by_cases h108 : (f_X9_isIn x0 (v98 + 1)) = 0
                · replace hT := hT.trans (if_pos h108)
                  have hp110 := f_X9_within_p (v98 + 1) 0 15 (by omega) (by omega) (by omega) 
                  have hp112 := f_X9_doesStop_p (f_X9_within (v98 + 1) 0 15) s78 (by omega) hm_s78 (by first | assumption | omega)
                  by_cases h113 : (f_X9_doesStop (f_X9_within (v98 + 1) 0 15) s78) = 0
                  · replace hT := hT.trans (if_pos h113)
                    exact ih (v98 + 1) ⟨(by omega), (by first | assumption | omega), (by first | assumption | exact NB_0 _ _ | exact NB_s (by assumption) (by omega))⟩ (by omega) (fun w101 hw hi => hk w101 (hT.trans hw) hi)
                  · replace hT := hT.trans (if_neg h113)
                    exact hk v98 hT ⟨(by omega), (by first | assumption | omega), (by first | assumption | exact NB_0 _ _ | exact NB_s (by assumption) (by omega))⟩
                · replace hT := hT.trans (if_neg h108)
                  exact hk v98 hT ⟨(by omega), (by first | assumption | omega), (by first | assumption | exact NB_0 _ _ | exact NB_s (by assumption) (by omega))⟩
              · replace hT := hT.trans (if_neg h105)
                exact hk v98 hT ⟨(by omega), (by first | assumption | omega), (by first | assumption | exact NB_0 _ _ | exact NB_s (by assumption) (by omega))⟩
            · replace hT := hT.trans (if_neg h104)
              exact hk v98 hT ⟨(by omega), (by first | assumption | omega), (by first | assumption | exact NB_0 _ _ | exact NB_s (by assumption) (by omega))⟩
        refine L99 17 v77 ⟨(by omega), (by first | assumption | omega), (by first | assumption | exact NB_0 _ _ | exact NB_s (by assumption) (by omega))⟩ (by omega) (fun v120 hw hq => ?_)
        obtain ⟨hq121, hq122, hq123⟩ := hq
        replace hT := gl1y hT hw
        have hp125 := f_X9_isIn_p x0 v77 (by omega) (by omega) 
        by_cases h126 : (f_X9_isIn x0 v77) = 0
        · replace hT := hT.trans (if_pos h126)
          have kgs := gc_str (x := x0) (a := v77) (b := v120) (by assumption) (by omega) (by omega) (by omega)
          obtain ⟨r128, s129, hs129⟩ : ∃ rr ss, (f_X9_putsStretch v77 v120 x1 s78) = (rr, ss) := ⟨_, _, rfl⟩
          replace hT := gby hT hs129
          have hp130 := f_X9_putsStretch_p_q v77 v120 x1 s78 (by omega) (by omega) (by omega) hm_s78 hOR_s78 hBE_s78 hFI_s78 (by first | assumption | omega) (by first | assumption | omega) (by first | assumption | omega) (by first | assumption | omega) (by first | assumption | omega) r128 s129 hs129
          obtain ⟨hfc_s129, hm_s129, hp131, hOR_s129, hBE_s129, hFI_s129, hp132, hp133, hp134, hp135⟩ := hp130
          have hf_s129 : fr [27, 28, 29, 30, 31, 32, 33] s0 s129 := hf_s78.call (by decide) hfc_s129
          exact ih (v120 + 1) s129 ⟨(by omega), hf_s129, hm_s129, hOR_s129, hBE_s129, hFI_s129, (by first | assumption | omega), (by first | assumption | omega), (by first | assumption | omega), (by first | assumption | omega), (by first | assumption | exact COV_0 _ _ _ | exact COV_cg (by assumption) (by omega) | exact COV_gap (by assumption) (by omega) | exact COV_str (by assumption) (by assumption) (by omega) (by omega) (by omega) (by omega) (by omega)), (by first | assumption | omega)⟩ (by omega) (fun w81 s82 hw hi => hk w81 s82 (hT.trans hw) hi)
        · replace hT := hT.trans (if_neg h126)
          have kgb := gc_bit (x := x0) (p := v77) (by omega) (by omega)
          exact ih (v77 + 1) s78 ⟨(by omega), hf_s78, hm_s78, hOR_s78, hBE_s78, hFI_s78, (by first | assumption | omega), (by first | assumption | omega), (by first | assumption | omega), (by first | assumption | omega), (by first | assumption | exact COV_0 _ _ _ | exact COV_cg (by assumption) (by omega) | exact COV_gap (by assumption) (by omega) | exact COV_str (by assumption) (by assumption) (by omega) (by omega) (by omega) (by omega) (by omega)), (by first | assumption | omega)⟩ (by omega) (fun w81 s82 hw hi => hk w81 s82 (hT.trans hw) hi)
      · replace hT := hT.trans (if_neg h83)
        exact hk v77 s78 hT ⟨(by omega), hf_s78, hm_s78, hOR_s78, hBE_s78, hFI_s78, (by first | assumption | omega), (by first | assumption | omega), (by first | assumption | omega), (by first | assumption | omega), (by first | assumption | exact COV_0 _ _ _ | exact COV_cg (by assumption) (by omega) | exact COV_gap (by assumption) (by omega) | exact COV_str (by assumption) (by assumption) (by omega) (by omega) (by omega) (by omega) (by omega)), (by first | assumption | omega), (by first | assumption | omega)⟩
  refine L79 17 0 s16 ⟨(by omega), hf_s16, hm_s16, hOR_s16, hBE_s16, hFI_s16, (by first | assumption | omega), (by first | assumption | omega), (by first | assumption | omega), (by first | assumption | omega), (by first | assumption | exact COV_0 _ _ _ | exact COV_cg (by assumption) (by omega) | exact COV_gap (by assumption) (by omega) | exact COV_str (by assumption) (by assumption) (by omega) (by omega) (by omega) (by omega) (by omega)), (by first | assumption | omega)⟩ (by omega) (fun v150 s151 hw hq => ?_)
  obtain ⟨hq152, hf_s151, hm_s151, hOR_s151, hBE_s151, hFI_s151, hq153, hq154, hq155, hq156, hq157, hq158, hq159⟩ := hq
  replace hT := gl2y hT hw
  obtain ⟨rfl, rfl⟩ := Prod.mk.inj (hT.symm.trans hres)
  exact ⟨hf_s151, hm_s151, trivial, hOR_s151, hBE_s151, hFI_s151, (by first | assumption | omega), (by first | assumption | omega), (by first | assumption | omega), (by first | assumption | exact COV_0 _ _ _ | exact COV_cg (by assumption) (by omega) | exact COV_gap (by assumption) (by omega) | exact COV_str (by assumption) (by assumption) (by omega) (by omega) (by omega) (by omega) (by omega)), (by first | omega | exact GCX (by assumption) (by omega))⟩

def w_X9_rowOf_24 (c2 : Int) (c3 : Int) : Nat → Int → gMem → Int × gMem
  | 0, v19, s20 => (v19, s20)
  | n21 + 1, v19, s20 => (if v19 < 16 then (gl ((if (f_X9_isIn (s20 2 0) v19) = 0 then s20 else gb (f_X9_puts_ v19 0 s20) (fun r40 s41 => s41))) (fun s29 => (w_X9_rowOf_24 c2 c3 n21 (v19 + 1) s29))) else (v19, s20))
theorem w_X9_rowOf_24_s (c2 : Int) (c3 : Int) (n21 : Nat) (v19 : Int) (s20 : gMem) : w_X9_rowOf_24 c2 c3 (n21 + 1) v19 s20 = (if v19 < 16 then (gl ((if (f_X9_isIn (s20 2 0) v19) = 0 then s20 else gb (f_X9_puts_ v19 0 s20) (fun r40 s41 => s41))) (fun s29 => (w_X9_rowOf_24 c2 c3 n21 (v19 + 1) s29))) else (v19, s20)) := rfl
def w_X9_rowOf_98 (c2 : Int) (c3 : Int) (s0 : gMem) : Nat → Int → Int
  | 0, v141 => v141
  | n142 + 1, v141 => (if (f_X9_isIn (s0 35 0) (s0 27 v141)) = 0 then v141 else (w_X9_rowOf_98 c2 c3 s0 n142 (v141 + 1)))
theorem w_X9_rowOf_98_s (c2 : Int) (c3 : Int) (s0 : gMem) (n142 : Nat) (v141 : Int)  : w_X9_rowOf_98 c2 c3 s0 (n142 + 1) v141 = (if (f_X9_isIn (s0 35 0) (s0 27 v141)) = 0 then v141 else (w_X9_rowOf_98 c2 c3 s0 n142 (v141 + 1))) := rfl
def w_X9_rowOf_78 (c2 : Int) : Nat → Int → gMem → Int × gMem
  | 0, v134, s135 => (v134, s135)
  | n136 + 1, v134, s135 => (if (s135 35 0) = 65535 then (v134, s135) else (if (s135 36 0) < c2 then (gl (w_X9_rowOf_98 c2 v134 s135 17 0) (fun v165 => gl ((v134 * 48271) % 2147483647) (fun v172 => gl (mset s135 36 0 ((s135 36 0) + 1)) (fun s174 => gb (f_X9_putsUp (s174 27 v165) v172 s174) (fun r184 s185 => (gl ((if r184 = (-1) then 0 else 1)) (fun v196 => gl (mset s185 37 0 ((s174 37 0) + v196)) (fun s197 => (w_X9_rowOf_78 c2 n136 v172 s197))))))))) else (v134, s135)))
theorem w_X9_rowOf_78_s (c2 : Int) (n136 : Nat) (v134 : Int) (s135 : gMem) : w_X9_rowOf_78 c2 (n136 + 1) v134 s135 = (if (s135 35 0) = 65535 then (v134, s135) else (if (s135 36 0) < c2 then (gl (w_X9_rowOf_98 c2 v134 s135 17 0) (fun v165 => gl ((v134 * 48271) % 2147483647) (fun v172 => gl (mset s135 36 0 ((s135 36 0) + 1)) (fun s174 => gb (f_X9_putsUp (s174 27 v165) v172 s174) (fun r184 s185 => (gl ((if r184 = (-1) then 0 else 1)) (fun v196 => gl (mset s185 37 0 ((s174 37 0) + v196)) (fun s197 => (w_X9_rowOf_78 c2 n136 v172 s197))))))))) else (v134, s135))) := rfl
def f_X9_rowOf (x0 : Int) (x1 : Int) (s0 : gMem) : gRes := gb (f_X9_orders (s0 2 0) (s0 2 2) s0) (fun r6 s7 => (gl2 (w_X9_rowOf_24 x1 (x0 + 1) 17 0 s7) (fun v102 s103 => gl (mset s103 35 0 (s103 2 1)) (fun s116 => gl (mset s116 36 0 0) (fun s122 => gl (mset s122 37 0 0) (fun s128 => (gl2 (w_X9_rowOf_78 x1 401 (x0 + 1) s128) (fun v297 s298 => (0, s298)))))))))
theorem f_X9_rowOf_e (x0 : Int) (x1 : Int) (s0 : gMem) : f_X9_rowOf x0 x1 s0 = gb (f_X9_orders (s0 2 0) (s0 2 2) s0) (fun r6 s7 => (gl2 (w_X9_rowOf_24 x1 (x0 + 1) 17 0 s7) (fun v102 s103 => gl (mset s103 35 0 (s103 2 1)) (fun s116 => gl (mset s116 36 0 0) (fun s122 => gl (mset s122 37 0 0) (fun s128 => (gl2 (w_X9_rowOf_78 x1 401 (x0 + 1) s128) (fun v297 s298 => (0, s298))))))))) := rfl
set_option maxRecDepth 100000 in
set_option maxHeartbeats 4000000 in
theorem f_X9_rowOf_p (x0 : Int) (x1 : Int) (s0 : gMem) (hx0 : in32 x0) (hx1 : in32 x1) (hm_s0 : gMR lgM s0) (hpre0 : VS s0) (hpre1 : KN s0) (hpre2 : MO s0) (hpre3 : TD s0) (hpre4 : OR s0) (hpre5 : BE s0) (hpre6 : FI s0) (hpre7 : 0 ≤ x0 ∧ x0 ≤ 100100) (hpre8 : 0 ≤ x1 ∧ x1 ≤ 400) (rZ : Int) (sZ : gMem) (hres : f_X9_rowOf x0 x1 s0 = (rZ, sZ)) : (fr [25, 26, 27, 28, 29, 30, 31, 32, 33, 35, 36, 37] s0 sZ) ∧ (gMR lgM sZ) ∧ (True) ∧ (OR sZ) ∧ (BE sZ) ∧ (FI sZ) ∧ (0 ≤ sZ 35 0 ∧ sZ 35 0 ≤ 65535) := by
  have hT := f_X9_rowOf_e x0 x1 s0
  have hf_s0 : fr [25, 26, 27, 28, 29, 30, 31, 32, 33, 35, 36, 37] s0 s0 := fr.rf _ _
  have hOR_s0 := hpre4
  have hBE_s0 := hpre5
  have hFI_s0 := hpre6
  have hr1 := (hm_s0 2 0).1 rfl
  have hi2 := hpre3 0
  have hr3 := (hm_s0 2 2).1 rfl
  have hi4 := hpre3 2
  obtain ⟨r6, s7, hs7⟩ : ∃ rr ss, (f_X9_orders (s0 2 0) (s0 2 2) s0) = (rr, ss) := ⟨_, _, rfl⟩
  replace hT := gby hT hs7
  have hp8 := f_X9_orders_p_q (s0 2 0) (s0 2 2) s0 (by omega) (by omega) hm_s0 hOR_s0 hBE_s0 hFI_s0 (by first | assumption | omega) r6 s7 hs7
  obtain ⟨hfc_s7, hm_s7, hp9, hOR_s7, hBE_s7, hFI_s7, hp10, hp11, hp12, hp13, hp14⟩ := hp8
  have hf_s7 : fr [25, 26, 27, 28, 29, 30, 31, 32, 33, 35, 36, 37] s0 s7 := hf_s0.call (by decide) hfc_s7
  have ht15 : s7 2 0 = s0 2 0 := by rw [hfc_s7 2 (by decide)]
  have ht16 : s7 35 0 = s0 35 0 := by rw [hfc_s7 35 (by decide)]
  have ht17 : s7 36 0 = s0 36 0 := by rw [hfc_s7 36 (by decide)]
  have ht18 : s7 37 0 = s0 37 0 := by rw [hfc_s7 37 (by decide)]
  have L52 : ∀ (n53 : Nat) (v50 : Int) (s51 : gMem), ((in32 v50) ∧ (fr [25, 26, 27, 28, 29, 30, 31, 32, 33, 35, 36, 37] s0 s51) ∧ (gMR lgM s51) ∧ (OR s51) ∧ (BE s51) ∧ (FI s51) ∧ (s51 2 0 = s7 2 0) ∧ (s51 35 0 = s7 35 0) ∧ (s51 36 0 = s7 36 0) ∧ (s51 37 0 = s7 37 0) ∧ (0 ≤ v50 ∧ v50 ≤ 16) ∧ (0 ≤ s51 30 0) ∧ (GE2 (s51 2 0) (s51 30 0) v50) ∧ (CO2 (s51 27) (s51 2 0) (s51 30 0) v50)) → 16 - v50 < (n53 : Int) → (∀ (w54 : Int) (s55 : gMem), (w_X9_rowOf_24 x1 (x0 + 1) n53 v50 s51) = (w54, s55) → ((in32 w54) ∧ (fr [25, 26, 27, 28, 29, 30, 31, 32, 33, 35, 36, 37] s0 s55) ∧ (gMR lgM s55) ∧ (OR s55) ∧ (BE s55) ∧ (FI s55) ∧ (s55 2 0 = s7 2 0) ∧ (s55 35 0 = s7 35 0) ∧ (s55 36 0 = s7 36 0) ∧ (s55 37 0 = s7 37 0) ∧ (0 ≤ w54 ∧ w54 ≤ 16) ∧ (0 ≤ s55 30 0) ∧ (GE2 (s55 2 0) (s55 30 0) w54) ∧ (CO2 (s55 27) (s55 2 0) (s55 30 0) w54) ∧ (w54 = 16)) → (fr [25, 26, 27, 28, 29, 30, 31, 32, 33, 35, 36, 37] s0 sZ) ∧ (gMR lgM sZ) ∧ (True) ∧ (OR sZ) ∧ (BE sZ) ∧ (FI sZ) ∧ (0 ≤ sZ 35 0 ∧ sZ 35 0 ≤ 65535)) → (fr [25, 26, 27, 28, 29, 30, 31, 32, 33, 35, 36, 37] s0 sZ) ∧ (gMR lgM sZ) ∧ (True) ∧ (OR sZ) ∧ (BE sZ) ∧ (FI sZ) ∧ (0 ≤ sZ 35 0 ∧ sZ 35 0 ≤ 65535) := by
    intro n53; induction n53 with
    | zero =>
      intro v50 s51 hq hm hk
      exfalso
      obtain ⟨hq84, hf_s51, hm_s51, hOR_s51, hBE_s51, hFI_s51, hq85, hq86, hq87, hq88, hq89, hq90, hq91, hq92⟩ := hq
      omega
    | succ n53 ih =>
      intro v50 s51 hq hm hk
      obtain ⟨hq93, hf_s51, hm_s51, hOR_s51, hBE_s51, hFI_s51, hq94, hq95, hq96, hq97, hq98, hq99, hq100, hq101⟩ := hq
      have hT := w_X9_rowOf_24_s x1 (x0 + 1) n53 v50 s51
      by_cases h56 : v50 < 16
      · replace hT := hT.trans (if_pos h56)
        have hr57 := (hm_s51 2 0).1 rfl
        have hi58 := hpre3 0
        rw [← hf_s51 2 (by decide)] at hi58
        have hp60 := f_X9_isIn_p (s51 2 0) v50 (by omega) (by omega) 
        obtain ⟨z72, hz72, hT⟩ := gl1x hT
        have j62 : ∀ (s63 : gMem), ((fr [25, 26, 27, 28, 29, 30, 31, 32, 33, 35, 36, 37] s0 s63) ∧ (gMR lgM s63) ∧ (OR s63) ∧ (BE s63) ∧ (FI s63) ∧ (s63 2 0 = s51 2 0) ∧ (s63 35 0 = s51 35 0) ∧ (s63 36 0 = s51 36 0) ∧ (s63 37 0 = s51 37 0) ∧ (0 ≤ v50 ∧ v50 ≤ 15) ∧ (0 ≤ s63 30 0) ∧ (GE2 (s63 2 0) (s63 30 0) (v50 + 1)) ∧ (CO2 (s63 27) (s63 2 0) (s63 30 0) (v50 + 1))) → z72 = s63 → (fr [25, 26, 27, 28, 29, 30, 31, 32, 33, 35, 36, 37] s0 sZ) ∧ (gMR lgM sZ) ∧ (True) ∧ (OR sZ) ∧ (BE sZ) ∧ (FI sZ) ∧ (0 ≤ sZ 35 0 ∧ sZ 35 0 ≤ 65535) := by
          intro s63 hq hz
          obtain ⟨hf_s63, hm_s63, hOR_s63, hBE_s63, hFI_s63, hq64, hq65, hq66, hq67, hq68, hq69, hq70, hq71⟩ := hq
          replace hT := gl1y hT hz
          exact ih (v50 + 1) s63 ⟨(by omega), hf_s63, hm_s63, hOR_s63, hBE_s63, hFI_s63, (by first | assumption | omega), (by first | assumption | omega), (by first | assumption | omega), (by first | assumption | omega), (by first | assumption | omega), (by first | assumption | omega), (by first | assumption | exact GE2_i (by assumption) (by assumption) | exact GE2_i (by assumption) rfl | exact GE2_bit2 (by assumption) (by assumption) (by omega) (by omega) (by omega) | exact GE2_no (by assumption) (by omega) (by omega)), (by first | assumption | exact CO2_0 (by assumption) (by assumption) | exact CO2_0 (by assumption) rfl | exact CO2_no (by assumption) (by omega) | exact CO2_bit (by assumption) (by assumption) (by assumption) (by omega) (by omega) (by omega))⟩ (by omega) (fun w54 s55 hw hi => hk w54 s55 (hT.trans hw) hi)
        replace hT := hz72
        by_cases h61 : (f_X9_isIn (s51 2 0) v50) = 0
        · replace hT := hT.trans (if_pos h61)
          exact j62 s51 ⟨hf_s51, hm_s51, hOR_s51, hBE_s51, hFI_s51, (by first | assumption | omega), (by first | assumption | omega), (by first | assumption | omega), (by first | assumption | omega), (by first | assumption | omega), (by first | assumption | omega), (by first | assumption | exact GE2_i (by assumption) (by assumption) | exact GE2_i (by assumption) rfl | exact GE2_bit2 (by assumption) (by assumption) (by omega) (by omega) (by omega) | exact GE2_no (by assumption) (by omega) (by omega)), (by first | assumption | exact CO2_0 (by assumption) (by assumption) | exact CO2_0 (by assumption) rfl | exact CO2_no (by assumption) (by omega) | exact CO2_bit (by assumption) (by assumption) (by assumption) (by omega) (by omega) (by omega))⟩ hT
        · replace hT := hT.trans (if_neg h61)
          have kge := GE2_use (by assumption : GE2 (s51 2 0) (s51 30 0) v50) (by omega) (by omega) (by omega)
          obtain ⟨r74, s75, hs75⟩ : ∃ rr ss, (f_X9_puts_ v50 0 s51) = (rr, ss) := ⟨_, _, rfl⟩
          replace hT := gby hT hs75
          have hp76 := f_X9_puts__p_q v50 0 s51 (by omega) (by omega) hm_s51 hOR_s51 hBE_s51 (by first | assumption | omega) (by first | assumption | omega) (by first | assumption | omega) r74 s75 hs75
          obtain ⟨hfc_s75, hm_s75, hp77, hOR_s75, hBE_s75, hp78, hp79⟩ := hp76
          have hf_s75 : fr [25, 26, 27, 28, 29, 30, 31, 32, 33, 35, 36, 37] s0 s75 := hf_s51.call (by decide) hfc_s75
          have hFI_s75 : FI s75 := fun i => by rw [hfc_s75 29 (by decide)]; exact hFI_s51 i
          have ht80 : s75 2 0 = s51 2 0 := by rw [hfc_s75 2 (by decide)]
          have ht81 : s75 35 0 = s51 35 0 := by rw [hfc_s75 35 (by decide)]
          have ht82 : s75 36 0 = s51 36 0 := by rw [hfc_s75 36 (by decide)]
          have ht83 : s75 37 0 = s51 37 0 := by rw [hfc_s75 37 (by decide)]
          exact j62 s75 ⟨hf_s75, hm_s75, hOR_s75, hBE_s75, hFI_s75, (by first | assumption | omega), (by first | assumption | omega), (by first | assumption | omega), (by first | assumption | omega), (by first | assumption | omega), (by first | assumption | omega), (by first | assumption | exact GE2_i (by assumption) (by assumption) | exact GE2_i (by assumption) rfl | exact GE2_bit2 (by assumption) (by assumption) (by omega) (by omega) (by omega) | exact GE2_no (by assumption) (by omega) (by omega)), (by first | assumption | exact CO2_0 (by assumption) (by assumption) | exact CO2_0 (by assumption) rfl | exact CO2_no (by assumption) (by omega) | exact CO2_bit (by assumption) (by assumption) (by assumption) (by omega) (by omega) (by omega))⟩ hT
      · replace hT := hT.trans (if_neg h56)
        exact hk v50 s51 hT ⟨(by omega), hf_s51, hm_s51, hOR_s51, hBE_s51, hFI_s51, (by first | assumption | omega), (by first | assumption | omega), (by first | assumption | omega), (by first | assumption | omega), (by first | assumption | omega), (by first | assumption | omega), (by first | assumption | exact GE2_i (by assumption) (by assumption) | exact GE2_i (by assumption) rfl | exact GE2_bit2 (by assumption) (by assumption) (by omega) (by omega) (by omega) | exact GE2_no (by assumption) (by omega) (by omega)), (by first | assumption | exact CO2_0 (by assumption) (by assumption) | exact CO2_0 (by assumption) rfl | exact CO2_no (by assumption) (by omega) | exact CO2_bit (by assumption) (by assumption) (by assumption) (by omega) (by omega) (by omega)), (by first | assumption | omega)⟩
  refine L52 17 0 s7 ⟨(by omega), hf_s7, hm_s7, hOR_s7, hBE_s7, hFI_s7, (by first | assumption | omega), (by first | assumption | omega), (by first | assumption | omega), (by first | assumption | omega), (by first | assumption | omega), (by first | assumption | omega), (by first | assumption | exact GE2_i (by assumption) (by assumption) | exact GE2_i (by assumption) rfl | exact GE2_bit2 (by assumption) (by assumption) (by omega) (by omega) (by omega) | exact GE2_no (by assumption) (by omega) (by omega)), (by first | assumption | exact CO2_0 (by assumption) (by assumption) | exact CO2_0 (by assumption) rfl | exact CO2_no (by assumption) (by omega) | exact CO2_bit (by assumption) (by assumption) (by assumption) (by omega) (by omega) (by omega))⟩ (by omega) (fun v102 s103 hw hq => ?_)
  obtain ⟨hq104, hf_s103, hm_s103, hOR_s103, hBE_s103, hFI_s103, hq105, hq106, hq107, hq108, hq109, hq110, hq111, hq112, hq113⟩ := hq
  replace hT := gl2y hT hw
  have hr114 := (hm_s103 2 1).1 rfl
  have hi115 := hpre3 1
  rw [← hf_s103 2 (by decide)] at hi115
  obtain ⟨s116, hs116, hT⟩ := glx hT
  have hf_s116 : fr [25, 26, 27, 28, 29, 30, 31, 32, 33, 35, 36, 37] s0 s116 := hs116 ▸ hf_s103.set (by decide)
  have hm_s116 : gMR lgM s116 := hs116 ▸ hm_s103.set32 rfl (by omega)
  have hOR_s116 : OR s116 := fun i => by rw [hs116, mset_ne _ _ _ _ _ (by decide)]; exact hOR_s103 i
  have hBE_s116 : BE s116 := fun i => by rw [hs116, mset_ne _ _ _ _ _ (by decide)]; exact hBE_s103 i
  have hFI_s116 : FI s116 := fun i => by rw [hs116, mset_ne _ _ _ _ _ (by decide)]; exact hFI_s103 i
  have ht117 : s116 2 0 = s103 2 0 := by rw [hs116]; exact mset_ne _ _ _ _ _ (by decide)
  have ht118 : s116 30 0 = s103 30 0 := by rw [hs116]; exact mset_ne _ _ _ _ _ (by decide)
  have ht119 : s116 35 0 = (s103 2 1) := by rw [hs116]; exact mset_eq _ _ _ _
  have ht120 : s116 36 0 = s103 36 0 := by rw [hs116]; exact mset_ne _ _ _ _ _ (by decide)
  have ht121 : s116 37 0 = s103 37 0 := by rw [hs116]; exact mset_ne _ _ _ _ _ (by decide)
  have htf27_s116 : s116 27 = s103 27 := (by rw [hs116]; exact mset_nf (by decide))
  obtain ⟨s122, hs122, hT⟩ := glx hT
  have hf_s122 : fr [25, 26, 27, 28, 29, 30, 31, 32, 33, 35, 36, 37] s0 s122 := hs122 ▸ hf_s116.set (by decide)
  have hm_s122 : gMR lgM s122 := hs122 ▸ hm_s116.set32 rfl (by omega)
  have hOR_s122 : OR s122 := fun i => by rw [hs122, mset_ne _ _ _ _ _ (by decide)]; exact hOR_s116 i
  have hBE_s122 : BE s122 := fun i => by rw [hs122, mset_ne _ _ _ _ _ (by decide)]; exact hBE_s116 i
  have hFI_s122 : FI s122 := fun i => by rw [hs122, mset_ne _ _ _ _ _ (by decide)]; exact hFI_s116 i
  have ht123 : s122 2 0 = s116 2 0 := by rw [hs122]; exact mset_ne _ _ _ _ _ (by decide)
  have ht124 : s122 30 0 = s116 30 0 := by rw [hs122]; exact mset_ne _ _ _ _ _ (by decide)
  have ht125 : s122 35 0 = s116 35 0 := by rw [hs122]; exact mset_ne _ _ _ _ _ (by decide)
  have ht126 : s122 36 0 = 0 := by rw [hs122]; exact mset_eq _ _ _ _
  have ht127 : s122 37 0 = s116 37 0 := by rw [hs122]; exact mset_ne _ _ _ _ _ (by decide)
  have htf27_s122 : s122 27 = s103 27 := ((by rw [hs122]; exact mset_nf (by decide)) : s122 27 = s116 27).trans htf27_s116
  obtain ⟨s128, hs128, hT⟩ := glx hT
  have hf_s128 : fr [25, 26, 27, 28, 29, 30, 31, 32, 33, 35, 36, 37] s0 s128 := hs128 ▸ hf_s122.set (by decide)
  have hm_s128 : gMR lgM s128 := hs128 ▸ hm_s122.set32 rfl (by omega)
  have hOR_s128 : OR s128 := fun i => by rw [hs128, mset_ne _ _ _ _ _ (by decide)]; exact hOR_s122 i
  have hBE_s128 : BE s128 := fun i => by rw [hs128, mset_ne _ _ _ _ _ (by decide)]; exact hBE_s122 i
  have hFI_s128 : FI s128 := fun i => by rw [hs128, mset_ne _ _ _ _ _ (by decide)]; exact hFI_s122 i
  have ht129 : s128 2 0 = s122 2 0 := by rw [hs128]; exact mset_ne _ _ _ _ _ (by decide)
  have ht130 : s128 30 0 = s122 30 0 := by rw [hs128]; exact mset_ne _ _ _ _ _ (by decide)
  have ht131 : s128 35 0 = s122 35 0 := by rw [hs128]; exact mset_ne _ _ _ _ _ (by decide)
  have ht132 : s128 36 0 = s122 36 0 := by rw [hs128]; exact mset_ne _ _ _ _ _ (by decide)
  have ht133 : s128 37 0 = 0 := by rw [hs128]; exact mset_eq _ _ _ _
  have htf27_s128 : s128 27 = s103 27 := ((by rw [hs128]; exact mset_nf (by decide)) : s128 27 = s122 27).trans htf27_s122
  have L208 : ∀ (n209 : Nat) (v206 : Int) (s207 : gMem), ((in64 v206) ∧ (fr [25, 26, 27, 28, 29, 30, 31, 32, 33, 35, 36, 37] s0 s207) ∧ (gMR lgM s207) ∧ (OR s207) ∧ (BE s207) ∧ (FI s207) ∧ (s207 2 0 = s128 2 0) ∧ (s207 30 0 = s128 30 0) ∧ (0 ≤ v206 ∧ v206 ≤ 2147483647) ∧ (0 ≤ s207 35 0 ∧ s207 35 0 ≤ 65535) ∧ (0 ≤ s207 36 0 ∧ s207 36 0 ≤ x1) ∧ (0 ≤ s207 37 0 ∧ s207 37 0 ≤ s207 36 0) ∧ (ALLC (s207 27))) → x1 - s207 36 0 < (n209 : Int) → (∀ (w210 : Int) (s211 : gMem), (w_X9_rowOf_78 x1 n209 v206 s207) = (w210, s211) → ((in64 w210) ∧ (fr [25, 26, 27, 28, 29, 30, 31, 32, 33, 35, 36, 37] s0 s211) ∧ (gMR lgM s211) ∧ (OR s211) ∧ (BE s211) ∧ (FI s211) ∧ (s211 2 0 = s128 2 0) ∧ (s211 30 0 = s128 30 0) ∧ (0 ≤ w210 ∧ w210 ≤ 2147483647) ∧ (0 ≤ s211 35 0 ∧ s211 35 0 ≤ 65535) ∧ (0 ≤ s211 36 0 ∧ s211 36 0 ≤ x1) ∧ (0 ≤ s211 37 0 ∧ s211 37 0 ≤ s211 36 0) ∧ (ALLC (s211 27))) → (fr [25, 26, 27, 28, 29, 30, 31, 32, 33, 35, 36, 37] s0 sZ) ∧ (gMR lgM sZ) ∧ (True) ∧ (OR sZ) ∧ (BE sZ) ∧ (FI sZ) ∧ (0 ≤ sZ 35 0 ∧ sZ 35 0 ≤ 65535)) → (fr [25, 26, 27, 28, 29, 30, 31, 32, 33, 35, 36, 37] s0 sZ) ∧ (gMR lgM sZ) ∧ (True) ∧ (OR sZ) ∧ (BE sZ) ∧ (FI sZ) ∧ (0 ≤ sZ 35 0 ∧ sZ 35 0 ≤ 65535) := by
    intro n209; induction n209 with
    | zero =>
      intro v206 s207 hq hm hk
      exfalso
      obtain ⟨hq281, hf_s207, hm_s207, hOR_s207, hBE_s207, hFI_s207, hq282, hq283, hq284, hq285, hq286, hq287, hq288⟩ := hq
      omega
    | succ n209 ih =>
      intro v206 s207 hq hm hk
      obtain ⟨hq289, hf_s207, hm_s207, hOR_s207, hBE_s207, hFI_s207, hq290, hq291, hq292, hq293, hq294, hq295, hq296⟩ := hq
      have hT := w_X9_rowOf_78_s x1 n209 v206 s207
      have hr212 := (hm_s207 35 0).1 rfl
      by_cases h213 : (s207 35 0) = 65535
      · replace hT := hT.trans (if_pos h213)
        exact hk v206 s207 hT ⟨(by omega), hf_s207, hm_s207, hOR_s207, hBE_s207, hFI_s207, (by first | assumption | omega), (by first | assumption | omega), (by first | assumption | omega), (by first | assumption | omega), (by first | assumption | omega), (by first | assumption | omega), (by first | assumption | exact ALLC_i (by assumption) (by assumption) (by omega) | exact ALLC_tr (by assumption) (by assumption) | exact ALLC_tr (by assumption) (ALLC_i (by assumption) (by assumption) (by omega)))⟩
      · replace hT := hT.trans (if_neg h213)
        have hr214 := (hm_s207 36 0).1 rfl
        by_cases h215 : (s207 36 0) < x1
        · replace hT := hT.trans (if_pos h215)
          have L225 : ∀ (n226 : Nat) (v224 : Int), ((in32 v224) ∧ (0 ≤ v224 ∧ v224 ≤ 15) ∧ (UPTO (s207 27) (s207 35 0) v224)) → 15 - v224 < (n226 : Int) → (∀ (w227 : Int), (w_X9_rowOf_98 x1 v206 s207 n226 v224) = w227 → ((in32 w227) ∧ (0 ≤ w227 ∧ w227 ≤ 15) ∧ (UPTO (s207 27) (s207 35 0) w227)) → (fr [25, 26, 27, 28, 29, 30, 31, 32, 33, 35, 36, 37] s0 sZ) ∧ (gMR lgM sZ) ∧ (True) ∧ (OR sZ) ∧ (BE sZ) ∧ (FI sZ) ∧ (0 ≤ sZ 35 0 ∧ sZ 35 0 ≤ 65535)) → (fr [25, 26, 27, 28, 29, 30, 31, 32, 33, 35, 36, 37] s0 sZ) ∧ (gMR lgM sZ) ∧ (True) ∧ (OR sZ) ∧ (BE sZ) ∧ (FI sZ) ∧ (0 ≤ sZ 35 0 ∧ sZ 35 0 ≤ 65535) := by
            intro n226; induction n226 with
            | zero =>
              intro v224 hq hm hk
              exfalso
              obtain ⟨hq234, hq235, hq236⟩ := hq
              omega
            | succ n226 ih =>
              intro v224 hq hm hk
              obtain ⟨hq237, hq238, hq239⟩ := hq
              have hT := w_X9_rowOf_98_s x1 v206 s207 n226 v224
              have hr228 := (hm_s207 35 0).1 rfl
              have hr229 := (hm_s207 27 v224).1 rfl
              have hi230 := hOR_s207 v224
              have hp232 := f_X9_isIn_p (s207 35 0) (s207 27 v224) (by omega) (by omega) 
              by_cases h233 : (f_X9_isIn (s207 35 0) (s207 27 v224)) = 0
              · replace hT := hT.trans (if_pos h233)
                exact hk v224 hT ⟨(by omega), (by first | assumption | omega), (by first | assumption | exact UPTO_0 _ _ | exact UPTO_s (by assumption) (by omega))⟩
              · replace hT := hT.trans (if_neg h233)
                have kup := UPTO_lt (f := s207 27) (st := s207 35 0) (n := v224) (by assumption) (by assumption) (by omega) (by omega) (by omega) (by omega) (by omega) (by omega)
                exact ih (v224 + 1) ⟨(by omega), (by first | assumption | omega), (by first | assumption | exact UPTO_0 _ _ | exact UPTO_s (by assumption) (by omega))⟩ (by omega) (fun w227 hw hi => hk w227 (hT.trans hw) hi)
          refine L225 17 0 ⟨(by omega), (by first | assumption | omega), (by first | assumption | exact UPTO_0 _ _ | exact UPTO_s (by assumption) (by omega))⟩ (by omega) (fun v240 hw hq => ?_)
          obtain ⟨hq241, hq242, hq243⟩ := hq
          replace hT := gl1y hT hw
          have hd244 : (0 : Int) ≤ (v206 * 48271) := (by omega)
          have hd245 : (0 : Int) < 2147483647 := (by omega)
          have hb246 := rm_rg (x := (v206 * 48271)) hd245
          obtain ⟨v247, hv247, hT⟩ := glx hT
          have hr248 := (hm_s207 36 0).1 rfl
          obtain ⟨s249, hs249, hT⟩ := glx hT
          have hf_s249 : fr [25, 26, 27, 28, 29, 30, 31, 32, 33, 35, 36, 37] s0 s249 := hs249 ▸ hf_s207.set (by decide)
          have hm_s249 : gMR lgM s249 := hs249 ▸ hm_s207.set32 rfl (by omega)
          have hOR_s249 : OR s249 := fun i => by rw [hs249, mset_ne _ _ _ _ _ (by decide)]; exact hOR_s207 i
          have hBE_s249 : BE s249 := fun i => by rw [hs249, mset_ne _ _ _ _ _ (by decide)]; exact hBE_s207 i
          have hFI_s249 : FI s249 := fun i => by rw [hs249, mset_ne _ _ _ _ _ (by decide)]; exact hFI_s207 i
          have ht250 : s249 2 0 = s207 2 0 := by rw [hs249]; exact mset_ne _ _ _ _ _ (by decide)
          have ht251 : s249 30 0 = s207 30 0 := by rw [hs249]; exact mset_ne _ _ _ _ _ (by decide)
          have ht252 : s249 35 0 = s207 35 0 := by rw [hs249]; exact mset_ne _ _ _ _ _ (by decide)
          have ht253 : s249 36 0 = ((s207 36 0) + 1) := by rw [hs249]; exact mset_eq _ _ _ _
          have ht254 : s249 37 0 = s207 37 0 := by rw [hs249]; exact mset_ne _ _ _ _ _ (by decide)
          have htf27_s249 : s249 27 = s207 27 := (by rw [hs249]; exact mset_nf (by decide))
          have hr255 := (hm_s249 37 0).1 rfl
          have hr256 := (hm_s249 27 v240).1 rfl
          have hi257 := hOR_s249 v240
          obtain ⟨r259, s260, hs260⟩ : ∃ rr ss, (f_X9_putsUp (s249 27 v240) v247 s249) = (rr, ss) := ⟨_, _, rfl⟩
          replace hT := gby hT hs260
          have hp261 := f_X9_putsUp_p (s249 27 v240) v247 s249 (by omega) (by omega) hm_s249 (by unfold VS; rw [hf_s249 5 (by decide), hf_s249 6 (by decide), hf_s249 7 (by decide), hf_s249 8 (by decide)]; exact hpre0) (by unfold KN; rw [hf_s249 0 (by decide)]; exact hpre1) (by unfold MO; rw [hf_s249 1 (by decide)]; exact hpre2) (by unfold TD; rw [hf_s249 2 (by decide)]; exact hpre3) (by first | assumption | omega) (by first | assumption | omega) (by first | assumption | omega) r259 s260 hs260
          obtain ⟨hfc_s260, hm_s260, hp262, hp263, hp264⟩ := hp261
          have hf_s260 : fr [25, 26, 27, 28, 29, 30, 31, 32, 33, 35, 36, 37] s0 s260 := hf_s249.call (by decide) hfc_s260
          have hOR_s260 : OR s260 := fun i => by rw [hfc_s260 27 (by decide)]; exact hOR_s249 i
          have hBE_s260 : BE s260 := fun i => by rw [hfc_s260 28 (by decide)]; exact hBE_s249 i
          have hFI_s260 : FI s260 := fun i => by rw [hfc_s260 29 (by decide)]; exact hFI_s249 i
          have htf27_s260 : s260 27 = s207 27 := hfc_s260 27 (by decide) |>.trans htf27_s249
          have ht265 : s260 2 0 = s249 2 0 := by rw [hfc_s260 2 (by decide)]
          have ht266 : s260 30 0 = s249 30 0 := by rw [hfc_s260 30 (by decide)]
          have ht267 : s260 36 0 = s249 36 0 := by rw [hfc_s260 36 (by decide)]
          have ht268 : s260 37 0 = s249 37 0 := by rw [hfc_s260 37 (by decide)]
          obtain ⟨z280, hz280, hT⟩ := gl1x hT
          have j270 : ∀ (v271 : Int), ((in32 v271) ∧ (0 ≤ v271 ∧ v271 ≤ 1)) → z280 = v271 → (fr [25, 26, 27, 28, 29, 30, 31, 32, 33, 35, 36, 37] s0 sZ) ∧ (gMR lgM sZ) ∧ (True) ∧ (OR sZ) ∧ (BE sZ) ∧ (FI sZ) ∧ (0 ≤ sZ 35 0 ∧ sZ 35 0 ≤ 65535) := by
            intro v271 hq hz
            obtain ⟨hq278, hq279⟩ := hq
            replace hT := gl1y hT hz
            obtain ⟨s272, hs272, hT⟩ := glx hT
            have hf_s272 : fr [25, 26, 27, 28, 29, 30, 31, 32, 33, 35, 36, 37] s0 s272 := hs272 ▸ hf_s260.set (by decide)
            have hm_s272 : gMR lgM s272 := hs272 ▸ hm_s260.set32 rfl (by omega)
            have hOR_s272 : OR s272 := fun i => by rw [hs272, mset_ne _ _ _ _ _ (by decide)]; exact hOR_s260 i
            have hBE_s272 : BE s272 := fun i => by rw [hs272, mset_ne _ _ _ _ _ (by decide)]; exact hBE_s260 i
            have hFI_s272 : FI s272 := fun i => by rw [hs272, mset_ne _ _ _ _ _ (by decide)]; exact hFI_s260 i
            have ht273 : s272 2 0 = s260 2 0 := by rw [hs272]; exact mset_ne _ _ _ _ _ (by decide)
            have ht274 : s272 30 0 = s260 30 0 := by rw [hs272]; exact mset_ne _ _ _ _ _ (by decide)
            have ht275 : s272 35 0 = s260 35 0 := by rw [hs272]; exact mset_ne _ _ _ _ _ (by decide)
            have ht276 : s272 36 0 = s260 36 0 := by rw [hs272]; exact mset_ne _ _ _ _ _ (by decide)
            have ht277 : s272 37 0 = ((s249 37 0) + v271) := by rw [hs272]; exact mset_eq _ _ _ _
            have htf27_s272 : s272 27 = s207 27 := ((by rw [hs272]; exact mset_nf (by decide)) : s272 27 = s260 27).trans htf27_s260
            exact ih v247 s272 ⟨(by omega), hf_s272, hm_s272, hOR_s272, hBE_s272, hFI_s272, (by first | assumption | omega), (by first | assumption | omega), (by first | assumption | omega), (by first | assumption | omega), (by first | assumption | omega), (by first | assumption | omega), (by first | assumption | exact ALLC_i (by assumption) (by assumption) (by omega) | exact ALLC_tr (by assumption) (by assumption) | exact ALLC_tr (by assumption) (ALLC_i (by assumption) (by assumption) (by omega)))⟩ (by omega) (fun w210 s211 hw hi => hk w210 s211 (hT.trans hw) hi)
          replace hT := hz280
          by_cases h269 : r259 = (-1)
          · replace hT := hT.trans (if_pos h269)
            exact j270 0 ⟨(by omega), (by first | assumption | omega)⟩ hT
          · replace hT := hT.trans (if_neg h269)
            exact j270 1 ⟨(by omega), (by first | assumption | omega)⟩ hT
        · replace hT := hT.trans (if_neg h215)
          exact hk v206 s207 hT ⟨(by omega), hf_s207, hm_s207, hOR_s207, hBE_s207, hFI_s207, (by first | assumption | omega), (by first | assumption | omega), (by first | assumption | omega), (by first | assumption | omega), (by first | assumption | omega), (by first | assumption | omega), (by first | assumption | exact ALLC_i (by assumption) (by assumption) (by omega) | exact ALLC_tr (by assumption) (by assumption) | exact ALLC_tr (by assumption) (ALLC_i (by assumption) (by assumption) (by omega)))⟩
  refine L208 401 (x0 + 1) s128 ⟨(by omega), hf_s128, hm_s128, hOR_s128, hBE_s128, hFI_s128, (by first | assumption | omega), (by first | assumption | omega), (by first | assumption | omega), (by first | assumption | omega), (by first | assumption | omega), (by first | assumption | omega), (by first | assumption | exact ALLC_i (by assumption) (by assumption) (by omega) | exact ALLC_tr (by assumption) (by assumption) | exact ALLC_tr (by assumption) (ALLC_i (by assumption) (by assumption) (by omega)))⟩ (by omega) (fun v297 s298 hw hq => ?_)
  obtain ⟨hq299, hf_s298, hm_s298, hOR_s298, hBE_s298, hFI_s298, hq300, hq301, hq302, hq303, hq304, hq305, hq306⟩ := hq
  replace hT := gl2y hT hw
  obtain ⟨rfl, rfl⟩ := Prod.mk.inj (hT.symm.trans hres)
  exact ⟨hf_s298, hm_s298, trivial, hOR_s298, hBE_s298, hFI_s298, (by first | assumption | omega)⟩
set_option maxRecDepth 100000 in
set_option maxHeartbeats 4000000 in
theorem c_X9_rowOf (l : Launch) (D : va_G) (a : Nat → Nat) (cI cJ cS cT : ClassId) (s0 : gMem) (x0 : Int) (x1 : Int) (hx0 : in32 x0) (hx1 : in32 x1) (hpre0 : VS s0) (hpre1 : KN s0) (hpre2 : MO s0) (hpre3 : TD s0) (hpre4 : OR s0) (hpre5 : BE s0) (hpre6 : FI s0) (hpre7 : 0 ≤ x0 ∧ x0 ≤ 100100) (hpre8 : 0 ≤ x1 ∧ x1 ≤ 400) : gC l yX9_rowOf cX9_rowOf 6 none 6 384 D vwCl (gT cI cJ cS cT) (wdM a cI cJ) lgM kV rgV [.ref (a 0), gI x0, gI x1] s0 (f_X9_rowOf x0 x1 s0) := by
  refine gC_of (by decide +kernel) (hwdM a cI cJ) (Nat.le_of_ble_eq_true rfl) ?_
  intro A p e R s m args below meth c hR E
  subst hR
  have hT := f_X9_rowOf_e x0 x1 s0
  have hf_s0 : fr [25, 26, 27, 28, 29, 30, 31, 32, 33, 35, 36, 37] s0 s0 := fr.rf _ _
  refine k_lv0 (lv' := [(0, .ref (a 0)), (1, gI x0), (2, gI x1)]) rfl ?_
  refine k_mr (fun hm_s0 => ?_)
  have hOR_s0 := hpre4
  have hBE_s0 := hpre5
  have hFI_s0 := hpre6
  refine k_iloadn (pc := 0) E 1 dX9_rowOf_0 rfl rfl ?_
  refine k_i2l (pc := 1) E dX9_rowOf_1 (by omega) ?_
  refine k_lconst1 (pc := 2) E dX9_rowOf_2 ?_
  refine k_ladd (pc := 3) E dX9_rowOf_3 ?_
  refine k_lstoren (pc := 4) (lv' := [(3, gL (x0 + 1)), (0, .ref (a 0)), (1, gI x0), (2, gI x1)]) E dX9_rowOf_4 rfl (by decide) rfl ?_
  refine k_aloadn (pc := 5) E 1 dX9_rowOf_5 rfl rfl ?_
  refine k_aloadn (pc := 6) E 1 dX9_rowOf_6 rfl rfl ?_
  refine k_getf (pc := 7) (q0 := 0) (f := 2) (v := .ref (a 3)) E inX9 rfl rfl (by decide) wm_900 rfl rfl dX9_rowOf_7 ?_
  refine k_iconst (pc := 10) E dX9_rowOf_10 ?_
  refine k_iaload (pc := 11) (q0 := 3) (t0 := 0) (k := 2) (n := 4) E rfl rfl rfl (by decide) (by omega) (by omega) dX9_rowOf_11 (fun hr1 => ?_)
  have hi2 := hpre3 0
  refine k_aloadn (pc := 12) E 1 dX9_rowOf_12 rfl rfl ?_
  refine k_getf (pc := 13) (q0 := 0) (f := 2) (v := .ref (a 3)) E inX9 rfl rfl (by decide) wm_900 rfl rfl dX9_rowOf_13 ?_
  refine k_iconst (pc := 16) E dX9_rowOf_16 ?_
  refine k_iaload (pc := 17) (q0 := 3) (t0 := 0) (k := 2) (n := 4) E rfl rfl rfl (by decide) (by omega) (by omega) dX9_rowOf_17 (fun hr3 => ?_)
  have hi4 := hpre3 2
  refine k_mr (fun hm_s0 => ?_)
  refine k_callV (pc := 18) (np := 2) (As := [gI (s0 2 0), gI (s0 2 2)]) (st := []) (q0 := 0) E (c_X9_orders l D a cI cJ cS cT s0 (s0 2 0) (s0 2 2) (by omega) (by omega) hOR_s0 hBE_s0 hFI_s0 (by first | assumption | omega)) wm_1085 wm_11 wm_1082 wm_1084 wp_39 (by decide +kernel) rfl rfl ⟨by decide, by decide⟩ rfl (Nat.le_of_ble_eq_true rfl) dX9_rowOf_18 (fun r6 s7 hs7 hr5 => ?_)
  replace hT := gby hT hs7
  have hp8 := f_X9_orders_p_q (s0 2 0) (s0 2 2) s0 (by omega) (by omega) hm_s0 hOR_s0 hBE_s0 hFI_s0 (by first | assumption | omega) r6 s7 hs7
  obtain ⟨hfc_s7, hm_s7, hp9, hOR_s7, hBE_s7, hFI_s7, hp10, hp11, hp12, hp13, hp14⟩ := hp8
  have hf_s7 : fr [25, 26, 27, 28, 29, 30, 31, 32, 33, 35, 36, 37] s0 s7 := hf_s0.call (by decide) hfc_s7
  have ht15 : s7 2 0 = s0 2 0 := by rw [hfc_s7 2 (by decide)]
  have ht16 : s7 35 0 = s0 35 0 := by rw [hfc_s7 35 (by decide)]
  have ht17 : s7 36 0 = s0 36 0 := by rw [hfc_s7 36 (by decide)]
  have ht18 : s7 37 0 = s0 37 0 := by rw [hfc_s7 37 (by decide)]
  refine k_st (st' := []) rfl ?_
  refine k_iconst (pc := 21) E dX9_rowOf_21 ?_
  refine k_istore (pc := 22) (lv' := [(5, gI 0), (3, gL (x0 + 1)), (0, .ref (a 0)), (1, gI x0), (2, gI x1)]) E dX9_rowOf_22 (by decide) rfl ?_
  have L52 : ∀ (n53 : Nat) (v50 : Int) (s51 : gMem), ((in32 v50) ∧ (fr [25, 26, 27, 28, 29, 30, 31, 32, 33, 35, 36, 37] s0 s51) ∧ (OR s51) ∧ (BE s51) ∧ (FI s51) ∧ (s51 2 0 = s7 2 0) ∧ (s51 35 0 = s7 35 0) ∧ (s51 36 0 = s7 36 0) ∧ (s51 37 0 = s7 37 0) ∧ (0 ≤ v50 ∧ v50 ≤ 16) ∧ (0 ≤ s51 30 0) ∧ (GE2 (s51 2 0) (s51 30 0) v50) ∧ (CO2 (s51 27) (s51 2 0) (s51 30 0) v50)) → 16 - v50 < (n53 : Int) → (∀ (w54 : Int) (s55 : gMem), (w_X9_rowOf_24 x1 (x0 + 1) n53 v50 s51) = (w54, s55) → ((in32 w54) ∧ (fr [25, 26, 27, 28, 29, 30, 31, 32, 33, 35, 36, 37] s0 s55) ∧ (OR s55) ∧ (BE s55) ∧ (FI s55) ∧ (s55 2 0 = s7 2 0) ∧ (s55 35 0 = s7 35 0) ∧ (s55 36 0 = s7 36 0) ∧ (s55 37 0 = s7 37 0) ∧ (0 ≤ w54 ∧ w54 ≤ 16) ∧ (0 ≤ s55 30 0) ∧ (GE2 (s55 2 0) (s55 30 0) w54) ∧ (CO2 (s55 27) (s55 2 0) (s55 30 0) w54) ∧ (w54 = 16)) → gK D vwCl (wdM a cI cJ) lgM A p l e { frames := 6, cells := 0, slots := 0, locals := 384 } s m args below meth c 6 (gQQ D vwCl (wdM a cI cJ) lgM A kV rgV below args s) (f_X9_rowOf x0 x1 s0) s55 58 [(0, .ref (a 0)), (2, gI x1), (3, gL (x0 + 1))] []) → gK D vwCl (wdM a cI cJ) lgM A p l e { frames := 6, cells := 0, slots := 0, locals := 384 } s m args below meth c 6 (gQQ D vwCl (wdM a cI cJ) lgM A kV rgV below args s) (f_X9_rowOf x0 x1 s0) s51 24 [(0, .ref (a 0)), (2, gI x1), (3, gL (x0 + 1)), (5, gI v50)] [] := by
    intro n53; induction n53 with
    | zero =>
      intro v50 s51 hq hm hk
      exfalso
      obtain ⟨hq84, hf_s51, hOR_s51, hBE_s51, hFI_s51, hq85, hq86, hq87, hq88, hq89, hq90, hq91, hq92⟩ := hq
      omega
    | succ n53 ih =>
      intro v50 s51 hq hm hk
      obtain ⟨hq93, hf_s51, hOR_s51, hBE_s51, hFI_s51, hq94, hq95, hq96, hq97, hq98, hq99, hq100, hq101⟩ := hq
      have hT := w_X9_rowOf_24_s x1 (x0 + 1) n53 v50 s51
      refine k_iload (pc := 24) E 3 dX9_rowOf_24 rfl ?_
      refine k_bipush (pc := 26) E dX9_rowOf_26 (by decide) ?_
      by_cases h56 : v50 < 16
      · replace hT := hT.trans (if_pos h56)
        refine k_icmp_ge_f (pc := 28) (tgt := 58) E (by omega) (by omega) dX9_rowOf_28 (by decide) h56 ?_
        refine k_aloadn (pc := 31) E 0 dX9_rowOf_31 rfl rfl ?_
        refine k_getf (pc := 32) (q0 := 0) (f := 2) (v := .ref (a 3)) E inX9 rfl rfl (by decide) wm_900 rfl rfl dX9_rowOf_32 ?_
        refine k_iconst (pc := 35) E dX9_rowOf_35 ?_
        refine k_iaload (pc := 36) (q0 := 3) (t0 := 0) (k := 2) (n := 4) E rfl rfl rfl (by decide) (by omega) (by omega) dX9_rowOf_36 (fun hr57 => ?_)
        have hi58 := hpre3 0
        rw [← hf_s51 2 (by decide)] at hi58
        refine k_iload (pc := 37) E 3 dX9_rowOf_37 rfl ?_
        refine k_mr (fun hm_s51 => ?_)
        refine k_callS (pc := 39) (np := 2) (As := [gI (s51 2 0), gI v50]) (st := []) E (c_X9_isIn l D a cI cJ cS cT s51 (s51 2 0) v50 (by omega) (by omega)) wm_1088 wm_11 wm_1086 wm_1087 (by decide +kernel) ⟨by decide, by decide⟩ rfl (Nat.le_of_ble_eq_true rfl) dX9_rowOf_39 (ro_kk (fun hr59 => ?_))
        have hp60 := f_X9_isIn_p (s51 2 0) v50 (by omega) (by omega) 
        refine k_st (st' := [gI (f_X9_isIn (s51 2 0) v50)]) rfl ?_
        obtain ⟨z72, hz72, hT⟩ := gl1x hT
        have j62 : ∀ (s63 : gMem), ((fr [25, 26, 27, 28, 29, 30, 31, 32, 33, 35, 36, 37] s0 s63) ∧ (OR s63) ∧ (BE s63) ∧ (FI s63) ∧ (s63 2 0 = s51 2 0) ∧ (s63 35 0 = s51 35 0) ∧ (s63 36 0 = s51 36 0) ∧ (s63 37 0 = s51 37 0) ∧ (0 ≤ v50 ∧ v50 ≤ 15) ∧ (0 ≤ s63 30 0) ∧ (GE2 (s63 2 0) (s63 30 0) (v50 + 1)) ∧ (CO2 (s63 27) (s63 2 0) (s63 30 0) (v50 + 1))) → z72 = s63 → gK D vwCl (wdM a cI cJ) lgM A p l e { frames := 6, cells := 0, slots := 0, locals := 384 } s m args below meth c 6 (gQQ D vwCl (wdM a cI cJ) lgM A kV rgV below args s) (f_X9_rowOf x0 x1 s0) s63 52 [(0, .ref (a 0)), (2, gI x1), (3, gL (x0 + 1)), (5, gI v50)] [] := by
          intro s63 hq hz
          obtain ⟨hf_s63, hOR_s63, hBE_s63, hFI_s63, hq64, hq65, hq66, hq67, hq68, hq69, hq70, hq71⟩ := hq
          replace hT := gl1y hT hz
          refine k_iinc (pc := 52) (lv' := [(5, gI (v50 + 1)), (0, .ref (a 0)), (2, gI x1), (3, gL (x0 + 1))]) E 3 dX9_rowOf_52 rfl (by decide) rfl ?_
          refine k_goto (pc := 55) (tgt := 24) E dX9_rowOf_55 (by decide) ?_
          refine k_lv (lv' := [(0, .ref (a 0)), (2, gI x1), (3, gL (x0 + 1)), (5, gI (v50 + 1))]) [1, 2, 3, 0] rfl ?_
          exact ih (v50 + 1) s63 ⟨(by omega), hf_s63, hOR_s63, hBE_s63, hFI_s63, (by first | assumption | omega), (by first | assumption | omega), (by first | assumption | omega), (by first | assumption | omega), (by first | assumption | omega), (by first | assumption | omega), (by first | assumption | exact GE2_i (by assumption) (by assumption) | exact GE2_i (by assumption) rfl | exact GE2_bit2 (by assumption) (by assumption) (by omega) (by omega) (by omega) | exact GE2_no (by assumption) (by omega) (by omega)), (by first | assumption | exact CO2_0 (by assumption) (by assumption) | exact CO2_0 (by assumption) rfl | exact CO2_no (by assumption) (by omega) | exact CO2_bit (by assumption) (by assumption) (by assumption) (by omega) (by omega) (by omega))⟩ (by omega) (fun w54 s55 hw hi => hk w54 s55 (hT.trans hw) hi)
        replace hT := hz72
        by_cases h61 : (f_X9_isIn (s51 2 0) v50) = 0
        · replace hT := hT.trans (if_pos h61)
          refine k_if_eq_t (pc := 42) (tgt := 52) E (by omega) dX9_rowOf_42 (by decide) h61 ?_
          exact j62 s51 ⟨hf_s51, hOR_s51, hBE_s51, hFI_s51, (by first | assumption | omega), (by first | assumption | omega), (by first | assumption | omega), (by first | assumption | omega), (by first | assumption | omega), (by first | assumption | omega), (by first | assumption | exact GE2_i (by assumption) (by assumption) | exact GE2_i (by assumption) rfl | exact GE2_bit2 (by assumption) (by assumption) (by omega) (by omega) (by omega) | exact GE2_no (by assumption) (by omega) (by omega)), (by first | assumption | exact CO2_0 (by assumption) (by assumption) | exact CO2_0 (by assumption) rfl | exact CO2_no (by assumption) (by omega) | exact CO2_bit (by assumption) (by assumption) (by assumption) (by omega) (by omega) (by omega))⟩ hT
        · replace hT := hT.trans (if_neg h61)
          refine k_if_eq_f (pc := 42) (tgt := 52) E (by omega) dX9_rowOf_42 (by decide) h61 ?_
          have kge := GE2_use (by assumption : GE2 (s51 2 0) (s51 30 0) v50) (by omega) (by omega) (by omega)
          refine k_aloadn (pc := 45) E 0 dX9_rowOf_45 rfl rfl ?_
          refine k_iload (pc := 46) E 3 dX9_rowOf_46 rfl ?_
          refine k_iconst (pc := 48) E dX9_rowOf_48 ?_
          refine k_mr (fun hm_s51 => ?_)
          refine k_callV (pc := 49) (np := 2) (As := [gI v50, gI 0]) (st := []) (q0 := 0) E (c_X9_puts_ l D a cI cJ cS cT s51 v50 0 (by omega) (by omega) hOR_s51 hBE_s51 (by first | assumption | omega) (by first | assumption | omega) (by first | assumption | omega)) wm_1096 wm_11 wm_1093 wm_1095 wp_41 (by decide +kernel) rfl rfl ⟨by decide, by decide⟩ rfl (Nat.le_of_ble_eq_true rfl) dX9_rowOf_49 (fun r74 s75 hs75 hr73 => ?_)
          replace hT := gby hT hs75
          have hp76 := f_X9_puts__p_q v50 0 s51 (by omega) (by omega) hm_s51 hOR_s51 hBE_s51 (by first | assumption | omega) (by first | assumption | omega) (by first | assumption | omega) r74 s75 hs75
          obtain ⟨hfc_s75, hm_s75, hp77, hOR_s75, hBE_s75, hp78, hp79⟩ := hp76
          have hf_s75 : fr [25, 26, 27, 28, 29, 30, 31, 32, 33, 35, 36, 37] s0 s75 := hf_s51.call (by decide) hfc_s75
          have hFI_s75 : FI s75 := fun i => by rw [hfc_s75 29 (by decide)]; exact hFI_s51 i
          have ht80 : s75 2 0 = s51 2 0 := by rw [hfc_s75 2 (by decide)]
          have ht81 : s75 35 0 = s51 35 0 := by rw [hfc_s75 35 (by decide)]
          have ht82 : s75 36 0 = s51 36 0 := by rw [hfc_s75 36 (by decide)]
          have ht83 : s75 37 0 = s51 37 0 := by rw [hfc_s75 37 (by decide)]
          refine k_st (st' := []) rfl ?_
          exact j62 s75 ⟨hf_s75, hOR_s75, hBE_s75, hFI_s75, (by first | assumption | omega), (by first | assumption | omega), (by first | assumption | omega), (by first | assumption | omega), (by first | assumption | omega), (by first | assumption | omega), (by first | assumption | exact GE2_i (by assumption) (by assumption) | exact GE2_i (by assumption) rfl | exact GE2_bit2 (by assumption) (by assumption) (by omega) (by omega) (by omega) | exact GE2_no (by assumption) (by omega) (by omega)), (by first | assumption | exact CO2_0 (by assumption) (by assumption) | exact CO2_0 (by assumption) rfl | exact CO2_no (by assumption) (by omega) | exact CO2_bit (by assumption) (by assumption) (by assumption) (by omega) (by omega) (by omega))⟩ hT
      · replace hT := hT.trans (if_neg h56)
        refine k_icmp_ge_t (pc := 28) (tgt := 58) E (by omega) (by omega) dX9_rowOf_28 (by decide) h56 ?_
        refine k_lv (lv' := [(0, .ref (a 0)), (2, gI x1), (3, gL (x0 + 1))]) [0, 1, 2] rfl ?_
        exact hk v50 s51 hT ⟨(by omega), hf_s51, hOR_s51, hBE_s51, hFI_s51, (by first | assumption | omega), (by first | assumption | omega), (by first | assumption | omega), (by first | assumption | omega), (by first | assumption | omega), (by first | assumption | omega), (by first | assumption | exact GE2_i (by assumption) (by assumption) | exact GE2_i (by assumption) rfl | exact GE2_bit2 (by assumption) (by assumption) (by omega) (by omega) (by omega) | exact GE2_no (by assumption) (by omega) (by omega)), (by first | assumption | exact CO2_0 (by assumption) (by assumption) | exact CO2_0 (by assumption) rfl | exact CO2_no (by assumption) (by omega) | exact CO2_bit (by assumption) (by assumption) (by assumption) (by omega) (by omega) (by omega)), (by first | assumption | omega)⟩
  refine k_lv (lv' := [(0, .ref (a 0)), (2, gI x1), (3, gL (x0 + 1)), (5, gI 0)]) [2, 4, 1, 0] rfl ?_
  refine L52 17 0 s7 ⟨(by omega), hf_s7, hOR_s7, hBE_s7, hFI_s7, (by first | assumption | omega), (by first | assumption | omega), (by first | assumption | omega), (by first | assumption | omega), (by first | assumption | omega), (by first | assumption | omega), (by first | assumption | exact GE2_i (by assumption) (by assumption) | exact GE2_i (by assumption) rfl | exact GE2_bit2 (by assumption) (by assumption) (by omega) (by omega) (by omega) | exact GE2_no (by assumption) (by omega) (by omega)), (by first | assumption | exact CO2_0 (by assumption) (by assumption) | exact CO2_0 (by assumption) rfl | exact CO2_no (by assumption) (by omega) | exact CO2_bit (by assumption) (by assumption) (by assumption) (by omega) (by omega) (by omega))⟩ (by omega) (fun v102 s103 hw hq => ?_)
  obtain ⟨hq104, hf_s103, hOR_s103, hBE_s103, hFI_s103, hq105, hq106, hq107, hq108, hq109, hq110, hq111, hq112, hq113⟩ := hq
  replace hT := gl2y hT hw
  refine k_aloadn (pc := 58) E 0 dX9_rowOf_58 rfl rfl ?_
  refine k_aloadn (pc := 59) E 0 dX9_rowOf_59 rfl rfl ?_
  refine k_getf (pc := 60) (q0 := 0) (f := 2) (v := .ref (a 3)) E inX9 rfl rfl (by decide) wm_900 rfl rfl dX9_rowOf_60 ?_
  refine k_iconst (pc := 63) E dX9_rowOf_63 ?_
  refine k_iaload (pc := 64) (q0 := 3) (t0 := 0) (k := 2) (n := 4) E rfl rfl rfl (by decide) (by omega) (by omega) dX9_rowOf_64 (fun hr114 => ?_)
  have hi115 := hpre3 1
  rw [← hf_s103 2 (by decide)] at hi115
  refine k_putfI (pc := 65) (q0 := 0) (f := 35) (k := 35) E tyX9 tyX9_ok nmX9 inX9 rfl rfl (by decide) wm_933 rfl rfl rfl (Nat.le_of_ble_eq_true rfl) rfl rfl (by omega) dX9_rowOf_65 ?_
  obtain ⟨s116, hs116, hT⟩ := glx hT
  refine k_sg hs116.symm ?_
  have hf_s116 : fr [25, 26, 27, 28, 29, 30, 31, 32, 33, 35, 36, 37] s0 s116 := hs116 ▸ hf_s103.set (by decide)
  have hOR_s116 : OR s116 := fun i => by rw [hs116, mset_ne _ _ _ _ _ (by decide)]; exact hOR_s103 i
  have hBE_s116 : BE s116 := fun i => by rw [hs116, mset_ne _ _ _ _ _ (by decide)]; exact hBE_s103 i
  have hFI_s116 : FI s116 := fun i => by rw [hs116, mset_ne _ _ _ _ _ (by decide)]; exact hFI_s103 i
  have ht117 : s116 2 0 = s103 2 0 := by rw [hs116]; exact mset_ne _ _ _ _ _ (by decide)
  have ht118 : s116 30 0 = s103 30 0 := by rw [hs116]; exact mset_ne _ _ _ _ _ (by decide)
  have ht119 : s116 35 0 = (s103 2 1) := by rw [hs116]; exact mset_eq _ _ _ _
  have ht120 : s116 36 0 = s103 36 0 := by rw [hs116]; exact mset_ne _ _ _ _ _ (by decide)
  have ht121 : s116 37 0 = s103 37 0 := by rw [hs116]; exact mset_ne _ _ _ _ _ (by decide)
  have htf27_s116 : s116 27 = s103 27 := (by rw [hs116]; exact mset_nf (by decide))
  refine k_aloadn (pc := 68) E 0 dX9_rowOf_68 rfl rfl ?_
  refine k_iconst (pc := 69) E dX9_rowOf_69 ?_
  refine k_putfI (pc := 70) (q0 := 0) (f := 36) (k := 36) E tyX9 tyX9_ok nmX9 inX9 rfl rfl (by decide) wm_934 rfl rfl rfl (Nat.le_of_ble_eq_true rfl) rfl rfl (by omega) dX9_rowOf_70 ?_
  obtain ⟨s122, hs122, hT⟩ := glx hT
  refine k_sg hs122.symm ?_
  have hf_s122 : fr [25, 26, 27, 28, 29, 30, 31, 32, 33, 35, 36, 37] s0 s122 := hs122 ▸ hf_s116.set (by decide)
  have hOR_s122 : OR s122 := fun i => by rw [hs122, mset_ne _ _ _ _ _ (by decide)]; exact hOR_s116 i
  have hBE_s122 : BE s122 := fun i => by rw [hs122, mset_ne _ _ _ _ _ (by decide)]; exact hBE_s116 i
  have hFI_s122 : FI s122 := fun i => by rw [hs122, mset_ne _ _ _ _ _ (by decide)]; exact hFI_s116 i
  have ht123 : s122 2 0 = s116 2 0 := by rw [hs122]; exact mset_ne _ _ _ _ _ (by decide)
  have ht124 : s122 30 0 = s116 30 0 := by rw [hs122]; exact mset_ne _ _ _ _ _ (by decide)
  have ht125 : s122 35 0 = s116 35 0 := by rw [hs122]; exact mset_ne _ _ _ _ _ (by decide)
  have ht126 : s122 36 0 = 0 := by rw [hs122]; exact mset_eq _ _ _ _
  have ht127 : s122 37 0 = s116 37 0 := by rw [hs122]; exact mset_ne _ _ _ _ _ (by decide)
  have htf27_s122 : s122 27 = s103 27 := ((by rw [hs122]; exact mset_nf (by decide)) : s122 27 = s116 27).trans htf27_s116
  refine k_aloadn (pc := 73) E 0 dX9_rowOf_73 rfl rfl ?_
  refine k_iconst (pc := 74) E dX9_rowOf_74 ?_
  refine k_putfI (pc := 75) (q0 := 0) (f := 37) (k := 37) E tyX9 tyX9_ok nmX9 inX9 rfl rfl (by decide) wm_935 rfl rfl rfl (Nat.le_of_ble_eq_true rfl) rfl rfl (by omega) dX9_rowOf_75 ?_
  obtain ⟨s128, hs128, hT⟩ := glx hT
  refine k_sg hs128.symm ?_
  have hf_s128 : fr [25, 26, 27, 28, 29, 30, 31, 32, 33, 35, 36, 37] s0 s128 := hs128 ▸ hf_s122.set (by decide)
  have hOR_s128 : OR s128 := fun i => by rw [hs128, mset_ne _ _ _ _ _ (by decide)]; exact hOR_s122 i
  have hBE_s128 : BE s128 := fun i => by rw [hs128, mset_ne _ _ _ _ _ (by decide)]; exact hBE_s122 i
  have hFI_s128 : FI s128 := fun i => by rw [hs128, mset_ne _ _ _ _ _ (by decide)]; exact hFI_s122 i
  have ht129 : s128 2 0 = s122 2 0 := by rw [hs128]; exact mset_ne _ _ _ _ _ (by decide)
  have ht130 : s128 30 0 = s122 30 0 := by rw [hs128]; exact mset_ne _ _ _ _ _ (by decide)
  have ht131 : s128 35 0 = s122 35 0 := by rw [hs128]; exact mset_ne _ _ _ _ _ (by decide)
  have ht132 : s128 36 0 = s122 36 0 := by rw [hs128]; exact mset_ne _ _ _ _ _ (by decide)
  have ht133 : s128 37 0 = 0 := by rw [hs128]; exact mset_eq _ _ _ _
  have htf27_s128 : s128 27 = s103 27 := ((by rw [hs128]; exact mset_nf (by decide)) : s128 27 = s122 27).trans htf27_s122
  have L208 : ∀ (n209 : Nat) (v206 : Int) (s207 : gMem), ((in64 v206) ∧ (fr [25, 26, 27, 28, 29, 30, 31, 32, 33, 35, 36, 37] s0 s207) ∧ (OR s207) ∧ (BE s207) ∧ (FI s207) ∧ (s207 2 0 = s128 2 0) ∧ (s207 30 0 = s128 30 0) ∧ (0 ≤ v206 ∧ v206 ≤ 2147483647) ∧ (0 ≤ s207 35 0 ∧ s207 35 0 ≤ 65535) ∧ (0 ≤ s207 36 0 ∧ s207 36 0 ≤ x1) ∧ (0 ≤ s207 37 0 ∧ s207 37 0 ≤ s207 36 0) ∧ (ALLC (s207 27))) → x1 - s207 36 0 < (n209 : Int) → (∀ (w210 : Int) (s211 : gMem), (w_X9_rowOf_78 x1 n209 v206 s207) = (w210, s211) → ((in64 w210) ∧ (fr [25, 26, 27, 28, 29, 30, 31, 32, 33, 35, 36, 37] s0 s211) ∧ (OR s211) ∧ (BE s211) ∧ (FI s211) ∧ (s211 2 0 = s128 2 0) ∧ (s211 30 0 = s128 30 0) ∧ (0 ≤ w210 ∧ w210 ≤ 2147483647) ∧ (0 ≤ s211 35 0 ∧ s211 35 0 ≤ 65535) ∧ (0 ≤ s211 36 0 ∧ s211 36 0 ≤ x1) ∧ (0 ≤ s211 37 0 ∧ s211 37 0 ≤ s211 36 0) ∧ (ALLC (s211 27))) → gK D vwCl (wdM a cI cJ) lgM A p l e { frames := 6, cells := 0, slots := 0, locals := 384 } s m args below meth c 6 (gQQ D vwCl (wdM a cI cJ) lgM A kV rgV below args s) (f_X9_rowOf x0 x1 s0) s211 174 [] []) → gK D vwCl (wdM a cI cJ) lgM A p l e { frames := 6, cells := 0, slots := 0, locals := 384 } s m args below meth c 6 (gQQ D vwCl (wdM a cI cJ) lgM A kV rgV below args s) (f_X9_rowOf x0 x1 s0) s207 78 [(0, .ref (a 0)), (2, gI x1), (3, gL v206)] [] := by
    intro n209; induction n209 with
    | zero =>
      intro v206 s207 hq hm hk
      exfalso
      obtain ⟨hq281, hf_s207, hOR_s207, hBE_s207, hFI_s207, hq282, hq283, hq284, hq285, hq286, hq287, hq288⟩ := hq
      omega
    | succ n209 ih =>
      intro v206 s207 hq hm hk
      obtain ⟨hq289, hf_s207, hOR_s207, hBE_s207, hFI_s207, hq290, hq291, hq292, hq293, hq294, hq295, hq296⟩ := hq
      have hT := w_X9_rowOf_78_s x1 n209 v206 s207
      refine k_aloadn (pc := 78) E 0 dX9_rowOf_78 rfl rfl ?_
      refine k_getfI (pc := 79) (q0 := 0) (f := 35) (k := 35) E inX9 rfl rfl (by decide) wm_933 rfl rfl rfl dX9_rowOf_79 (fun hr212 => ?_)
      refine k_ldc (pc := 82) (n := 65535) E dX9_rowOf_82 wm_1021 (by decide) ?_
      by_cases h213 : (s207 35 0) = 65535
      · replace hT := hT.trans (if_pos h213)
        refine k_icmp_eq_t (pc := 84) (tgt := 174) E (by omega) (by omega) dX9_rowOf_84 (by decide) h213 ?_
        refine k_lv (lv' := []) [] rfl ?_
        exact hk v206 s207 hT ⟨(by omega), hf_s207, hOR_s207, hBE_s207, hFI_s207, (by first | assumption | omega), (by first | assumption | omega), (by first | assumption | omega), (by first | assumption | omega), (by first | assumption | omega), (by first | assumption | omega), (by first | assumption | exact ALLC_i (by assumption) (by assumption) (by omega) | exact ALLC_tr (by assumption) (by assumption) | exact ALLC_tr (by assumption) (ALLC_i (by assumption) (by assumption) (by omega)))⟩
      · replace hT := hT.trans (if_neg h213)
        refine k_icmp_eq_f (pc := 84) (tgt := 174) E (by omega) (by omega) dX9_rowOf_84 (by decide) h213 ?_
        refine k_aloadn (pc := 87) E 0 dX9_rowOf_87 rfl rfl ?_
        refine k_getfI (pc := 88) (q0 := 0) (f := 36) (k := 36) E inX9 rfl rfl (by decide) wm_934 rfl rfl rfl dX9_rowOf_88 (fun hr214 => ?_)
        refine k_iloadn (pc := 91) E 1 dX9_rowOf_91 rfl rfl ?_
        by_cases h215 : (s207 36 0) < x1
        · replace hT := hT.trans (if_pos h215)
          refine k_icmp_ge_f (pc := 92) (tgt := 174) E (by omega) (by omega) dX9_rowOf_92 (by decide) h215 ?_
          refine k_iconst (pc := 95) E dX9_rowOf_95 ?_
          refine k_istore (pc := 96) (lv' := [(5, gI 0), (0, .ref (a 0)), (2, gI x1), (3, gL v206)]) E dX9_rowOf_96 (by decide) rfl ?_
          have L225 : ∀ (n226 : Nat) (v224 : Int), ((in32 v224) ∧ (0 ≤ v224 ∧ v224 ≤ 15) ∧ (UPTO (s207 27) (s207 35 0) v224)) → 15 - v224 < (n226 : Int) → (∀ (w227 : Int), (w_X9_rowOf_98 x1 v206 s207 n226 v224) = w227 → ((in32 w227) ∧ (0 ≤ w227 ∧ w227 ≤ 15) ∧ (UPTO (s207 27) (s207 35 0) w227)) → gK D vwCl (wdM a cI cJ) lgM A p l e { frames := 6, cells := 0, slots := 0, locals := 384 } s m args below meth c 6 (gQQ D vwCl (wdM a cI cJ) lgM A kV rgV below args s) (f_X9_rowOf x0 x1 s0) s207 121 [(0, .ref (a 0)), (2, gI x1), (3, gL v206), (5, gI w227)] []) → gK D vwCl (wdM a cI cJ) lgM A p l e { frames := 6, cells := 0, slots := 0, locals := 384 } s m args below meth c 6 (gQQ D vwCl (wdM a cI cJ) lgM A kV rgV below args s) (f_X9_rowOf x0 x1 s0) s207 98 [(0, .ref (a 0)), (2, gI x1), (3, gL v206), (5, gI v224)] [] := by
            intro n226; induction n226 with
            | zero =>
              intro v224 hq hm hk
              exfalso
              obtain ⟨hq234, hq235, hq236⟩ := hq
              omega
            | succ n226 ih =>
              intro v224 hq hm hk
              obtain ⟨hq237, hq238, hq239⟩ := hq
              have hT := w_X9_rowOf_98_s x1 v206 s207 n226 v224
              refine k_aloadn (pc := 98) E 0 dX9_rowOf_98 rfl rfl ?_
              refine k_getfI (pc := 99) (q0 := 0) (f := 35) (k := 35) E inX9 rfl rfl (by decide) wm_933 rfl rfl rfl dX9_rowOf_99 (fun hr228 => ?_)
              refine k_aloadn (pc := 102) E 0 dX9_rowOf_102 rfl rfl ?_
              refine k_getf (pc := 103) (q0 := 0) (f := 27) (v := .ref (a 16)) E inX9 rfl rfl (by decide) wm_925 rfl rfl dX9_rowOf_103 ?_
              refine k_iload (pc := 106) E 3 dX9_rowOf_106 rfl ?_
              refine k_iaload (pc := 108) (q0 := 16) (t0 := 0) (k := 27) (n := 16) E rfl rfl rfl (by decide) (by omega) (by omega) dX9_rowOf_108 (fun hr229 => ?_)
              have hi230 := hOR_s207 v224
              refine k_mr (fun hm_s207 => ?_)
              refine k_callS (pc := 109) (np := 2) (As := [gI (s207 35 0), gI (s207 27 v224)]) (st := []) E (c_X9_isIn l D a cI cJ cS cT s207 (s207 35 0) (s207 27 v224) (by omega) (by omega)) wm_1088 wm_11 wm_1086 wm_1087 (by decide +kernel) ⟨by decide, by decide⟩ rfl (Nat.le_of_ble_eq_true rfl) dX9_rowOf_109 (ro_kk (fun hr231 => ?_))
              have hp232 := f_X9_isIn_p (s207 35 0) (s207 27 v224) (by omega) (by omega) 
              refine k_st (st' := [gI (f_X9_isIn (s207 35 0) (s207 27 v224))]) rfl ?_
              by_cases h233 : (f_X9_isIn (s207 35 0) (s207 27 v224)) = 0
              · replace hT := hT.trans (if_pos h233)
                refine k_if_eq_t (pc := 112) (tgt := 121) E (by omega) dX9_rowOf_112 (by decide) h233 ?_
                exact hk v224 hT ⟨(by omega), (by first | assumption | omega), (by first | assumption | exact UPTO_0 _ _ | exact UPTO_s (by assumption) (by omega))⟩
              · replace hT := hT.trans (if_neg h233)
                refine k_if_eq_f (pc := 112) (tgt := 121) E (by omega) dX9_rowOf_112 (by decide) h233 ?_
                have kup := UPTO_lt (f := s207 27) (st := s207 35 0) (n := v224) (by assumption) (by assumption) (by omega) (by omega) (by omega) (by omega) (by omega) (by omega)
                refine k_iinc (pc := 115) (lv' := [(5, gI (v224 + 1)), (0, .ref (a 0)), (2, gI x1), (3, gL v206)]) E 3 dX9_rowOf_115 rfl (by decide) rfl ?_
                refine k_goto (pc := 118) (tgt := 98) E dX9_rowOf_118 (by decide) ?_
                refine k_lv (lv' := [(0, .ref (a 0)), (2, gI x1), (3, gL v206), (5, gI (v224 + 1))]) [1, 2, 3, 0] rfl ?_
                exact ih (v224 + 1) ⟨(by omega), (by first | assumption | omega), (by first | assumption | exact UPTO_0 _ _ | exact UPTO_s (by assumption) (by omega))⟩ (by omega) (fun w227 hw hi => hk w227 (hT.trans hw) hi)
          refine k_lv (lv' := [(0, .ref (a 0)), (2, gI x1), (3, gL v206), (5, gI 0)]) [1, 2, 3, 0] rfl ?_
          refine L225 17 0 ⟨(by omega), (by first | assumption | omega), (by first | assumption | exact UPTO_0 _ _ | exact UPTO_s (by assumption) (by omega))⟩ (by omega) (fun v240 hw hq => ?_)
          obtain ⟨hq241, hq242, hq243⟩ := hq
          replace hT := gl1y hT hw
          refine k_lloadn (pc := 121) E 2 dX9_rowOf_121 rfl rfl ?_
          refine k_ldc2 (pc := 122) (n := 48271) E dX9_rowOf_122 wm_1196 (by decide) ?_
          refine k_lmul (pc := 125) E dX9_rowOf_125 ?_
          refine k_ldc2 (pc := 126) (n := 2147483647) E dX9_rowOf_126 wm_1197 (by decide) ?_
          have hd244 : (0 : Int) ≤ (v206 * 48271) := (by omega)
          have hd245 : (0 : Int) < 2147483647 := (by omega)
          refine k_lremN (pc := 129) E (by omega) (by omega) hd244 hd245 dX9_rowOf_129 ?_
          have hb246 := rm_rg (x := (v206 * 48271)) hd245
          obtain ⟨v247, hv247, hT⟩ := glx hT
          refine k_st (st' := [gL v247]) (by rw [hv247]) ?_
          refine k_lstoren (pc := 130) (lv' := [(3, gL v247), (0, .ref (a 0)), (2, gI x1), (5, gI v240)]) E dX9_rowOf_130 rfl (by decide) rfl ?_
          refine k_aloadn (pc := 131) E 1 dX9_rowOf_131 rfl rfl ?_
          refine k_dup (pc := 132) E dX9_rowOf_132 rfl ?_
          refine k_getfI (pc := 133) (q0 := 0) (f := 36) (k := 36) E inX9 rfl rfl (by decide) wm_934 rfl rfl rfl dX9_rowOf_133 (fun hr248 => ?_)
          refine k_iconst (pc := 136) E dX9_rowOf_136 ?_
          refine k_iadd (pc := 137) E dX9_rowOf_137 ?_
          refine k_putfI (pc := 138) (q0 := 0) (f := 36) (k := 36) E tyX9 tyX9_ok nmX9 inX9 rfl rfl (by decide) wm_934 rfl rfl rfl (Nat.le_of_ble_eq_true rfl) rfl rfl (by omega) dX9_rowOf_138 ?_
          obtain ⟨s249, hs249, hT⟩ := glx hT
          refine k_sg hs249.symm ?_
          have hf_s249 : fr [25, 26, 27, 28, 29, 30, 31, 32, 33, 35, 36, 37] s0 s249 := hs249 ▸ hf_s207.set (by decide)
          have hOR_s249 : OR s249 := fun i => by rw [hs249, mset_ne _ _ _ _ _ (by decide)]; exact hOR_s207 i
          have hBE_s249 : BE s249 := fun i => by rw [hs249, mset_ne _ _ _ _ _ (by decide)]; exact hBE_s207 i
          have hFI_s249 : FI s249 := fun i => by rw [hs249, mset_ne _ _ _ _ _ (by decide)]; exact hFI_s207 i
          have ht250 : s249 2 0 = s207 2 0 := by rw [hs249]; exact mset_ne _ _ _ _ _ (by decide)
          have ht251 : s249 30 0 = s207 30 0 := by rw [hs249]; exact mset_ne _ _ _ _ _ (by decide)
          have ht252 : s249 35 0 = s207 35 0 := by rw [hs249]; exact mset_ne _ _ _ _ _ (by decide)
          have ht253 : s249 36 0 = ((s207 36 0) + 1) := by rw [hs249]; exact mset_eq _ _ _ _
          have ht254 : s249 37 0 = s207 37 0 := by rw [hs249]; exact mset_ne _ _ _ _ _ (by decide)
          have htf27_s249 : s249 27 = s207 27 := (by rw [hs249]; exact mset_nf (by decide))
          refine k_aloadn (pc := 141) E 1 dX9_rowOf_141 rfl rfl ?_
          refine k_dup (pc := 142) E dX9_rowOf_142 rfl ?_
          refine k_getfI (pc := 143) (q0 := 0) (f := 37) (k := 37) E inX9 rfl rfl (by decide) wm_935 rfl rfl rfl dX9_rowOf_143 (fun hr255 => ?_)
          refine k_aloadn (pc := 146) E 1 dX9_rowOf_146 rfl rfl ?_
          refine k_aloadn (pc := 147) E 1 dX9_rowOf_147 rfl rfl ?_
          refine k_getf (pc := 148) (q0 := 0) (f := 27) (v := .ref (a 16)) E inX9 rfl rfl (by decide) wm_925 rfl rfl dX9_rowOf_148 ?_
          refine k_iload (pc := 151) E 3 dX9_rowOf_151 rfl ?_
          refine k_iaload (pc := 153) (q0 := 16) (t0 := 0) (k := 27) (n := 16) E rfl rfl rfl (by decide) (by omega) (by omega) dX9_rowOf_153 (fun hr256 => ?_)
          have hi257 := hOR_s249 v240
          refine k_lloadn (pc := 154) E 0 dX9_rowOf_154 rfl rfl ?_
          refine k_mr (fun hm_s249 => ?_)
          refine k_callV (pc := 155) (np := 2) (As := [gI (s249 27 v240), gL v247]) (st := [gI (s249 37 0), .ref (a 0)]) (q0 := 0) E (c_X9_putsUp l D a cI cJ cS cT s249 (s249 27 v240) v247 (by omega) (by omega) (by unfold VS; rw [hf_s249 5 (by decide), hf_s249 6 (by decide), hf_s249 7 (by decide), hf_s249 8 (by decide)]; exact hpre0) (by unfold KN; rw [hf_s249 0 (by decide)]; exact hpre1) (by unfold MO; rw [hf_s249 1 (by decide)]; exact hpre2) (by unfold TD; rw [hf_s249 2 (by decide)]; exact hpre3) (by first | assumption | omega) (by first | assumption | omega) (by first | assumption | omega)) wm_1201 wm_11 wm_1198 wm_1200 wp_49 (by decide +kernel) rfl rfl ⟨by decide, by decide⟩ rfl (Nat.le_of_ble_eq_true rfl) dX9_rowOf_155 (fun r259 s260 hs260 hr258 => ?_)
          replace hT := gby hT hs260
          have hp261 := f_X9_putsUp_p (s249 27 v240) v247 s249 (by omega) (by omega) hm_s249 (by unfold VS; rw [hf_s249 5 (by decide), hf_s249 6 (by decide), hf_s249 7 (by decide), hf_s249 8 (by decide)]; exact hpre0) (by unfold KN; rw [hf_s249 0 (by decide)]; exact hpre1) (by unfold MO; rw [hf_s249 1 (by decide)]; exact hpre2) (by unfold TD; rw [hf_s249 2 (by decide)]; exact hpre3) (by first | assumption | omega) (by first | assumption | omega) (by first | assumption | omega) r259 s260 hs260
          obtain ⟨hfc_s260, hm_s260, hp262, hp263, hp264⟩ := hp261
          have hf_s260 : fr [25, 26, 27, 28, 29, 30, 31, 32, 33, 35, 36, 37] s0 s260 := hf_s249.call (by decide) hfc_s260
          have hOR_s260 : OR s260 := fun i => by rw [hfc_s260 27 (by decide)]; exact hOR_s249 i
          have hBE_s260 : BE s260 := fun i => by rw [hfc_s260 28 (by decide)]; exact hBE_s249 i
          have hFI_s260 : FI s260 := fun i => by rw [hfc_s260 29 (by decide)]; exact hFI_s249 i
          have htf27_s260 : s260 27 = s207 27 := hfc_s260 27 (by decide) |>.trans htf27_s249
          have ht265 : s260 2 0 = s249 2 0 := by rw [hfc_s260 2 (by decide)]
          have ht266 : s260 30 0 = s249 30 0 := by rw [hfc_s260 30 (by decide)]
          have ht267 : s260 36 0 = s249 36 0 := by rw [hfc_s260 36 (by decide)]
          have ht268 : s260 37 0 = s249 37 0 := by rw [hfc_s260 37 (by decide)]
          refine k_st (st' := [gI r259, gI (s249 37 0), .ref (a 0)]) rfl ?_
          refine k_iconst (pc := 158) E dX9_rowOf_158 ?_
          obtain ⟨z280, hz280, hT⟩ := gl1x hT
          have j270 : ∀ (v271 : Int), ((in32 v271) ∧ (0 ≤ v271 ∧ v271 ≤ 1)) → z280 = v271 → gK D vwCl (wdM a cI cJ) lgM A p l e { frames := 6, cells := 0, slots := 0, locals := 384 } s m args below meth c 6 (gQQ D vwCl (wdM a cI cJ) lgM A kV rgV below args s) (f_X9_rowOf x0 x1 s0) s260 167 [(0, .ref (a 0)), (2, gI x1), (3, gL v247)] [gI v271, gI (s249 37 0), .ref (a 0)] := by
            intro v271 hq hz
            obtain ⟨hq278, hq279⟩ := hq
            replace hT := gl1y hT hz
            refine k_iadd (pc := 167) E dX9_rowOf_167 ?_
            refine k_putfI (pc := 168) (q0 := 0) (f := 37) (k := 37) E tyX9 tyX9_ok nmX9 inX9 rfl rfl (by decide) wm_935 rfl rfl rfl (Nat.le_of_ble_eq_true rfl) rfl rfl (by omega) dX9_rowOf_168 ?_
            obtain ⟨s272, hs272, hT⟩ := glx hT
            refine k_sg hs272.symm ?_
            have hf_s272 : fr [25, 26, 27, 28, 29, 30, 31, 32, 33, 35, 36, 37] s0 s272 := hs272 ▸ hf_s260.set (by decide)
            have hOR_s272 : OR s272 := fun i => by rw [hs272, mset_ne _ _ _ _ _ (by decide)]; exact hOR_s260 i
            have hBE_s272 : BE s272 := fun i => by rw [hs272, mset_ne _ _ _ _ _ (by decide)]; exact hBE_s260 i
            have hFI_s272 : FI s272 := fun i => by rw [hs272, mset_ne _ _ _ _ _ (by decide)]; exact hFI_s260 i
            have ht273 : s272 2 0 = s260 2 0 := by rw [hs272]; exact mset_ne _ _ _ _ _ (by decide)
            have ht274 : s272 30 0 = s260 30 0 := by rw [hs272]; exact mset_ne _ _ _ _ _ (by decide)
            have ht275 : s272 35 0 = s260 35 0 := by rw [hs272]; exact mset_ne _ _ _ _ _ (by decide)
            have ht276 : s272 36 0 = s260 36 0 := by rw [hs272]; exact mset_ne _ _ _ _ _ (by decide)
            have ht277 : s272 37 0 = ((s249 37 0) + v271) := by rw [hs272]; exact mset_eq _ _ _ _
            have htf27_s272 : s272 27 = s207 27 := ((by rw [hs272]; exact mset_nf (by decide)) : s272 27 = s260 27).trans htf27_s260
            refine k_goto (pc := 171) (tgt := 78) E dX9_rowOf_171 (by decide) ?_
            exact ih v247 s272 ⟨(by omega), hf_s272, hOR_s272, hBE_s272, hFI_s272, (by first | assumption | omega), (by first | assumption | omega), (by first | assumption | omega), (by first | assumption | omega), (by first | assumption | omega), (by first | assumption | omega), (by first | assumption | exact ALLC_i (by assumption) (by assumption) (by omega) | exact ALLC_tr (by assumption) (by assumption) | exact ALLC_tr (by assumption) (ALLC_i (by assumption) (by assumption) (by omega)))⟩ (by omega) (fun w210 s211 hw hi => hk w210 s211 (hT.trans hw) hi)
          replace hT := hz280
          by_cases h269 : r259 = (-1)
          · replace hT := hT.trans (if_pos h269)
            refine k_icmp_ne_f (pc := 159) (tgt := 166) E (by omega) (by omega) dX9_rowOf_159 (by decide) h269 ?_
            refine k_iconst (pc := 162) E dX9_rowOf_162 ?_
            refine k_goto (pc := 163) (tgt := 167) E dX9_rowOf_163 (by decide) ?_
            refine k_lv (lv' := [(0, .ref (a 0)), (2, gI x1), (3, gL v247)]) [1, 2, 0] rfl ?_
            exact j270 0 ⟨(by omega), (by first | assumption | omega)⟩ hT
          · replace hT := hT.trans (if_neg h269)
            refine k_icmp_ne_t (pc := 159) (tgt := 166) E (by omega) (by omega) dX9_rowOf_159 (by decide) h269 ?_
            refine k_iconst (pc := 166) E dX9_rowOf_166 ?_
            refine k_lv (lv' := [(0, .ref (a 0)), (2, gI x1), (3, gL v247)]) [1, 2, 0] rfl ?_
            exact j270 1 ⟨(by omega), (by first | assumption | omega)⟩ hT
        · replace hT := hT.trans (if_neg h215)
          refine k_icmp_ge_t (pc := 92) (tgt := 174) E (by omega) (by omega) dX9_rowOf_92 (by decide) h215 ?_
          refine k_lv (lv' := []) [] rfl ?_
          exact hk v206 s207 hT ⟨(by omega), hf_s207, hOR_s207, hBE_s207, hFI_s207, (by first | assumption | omega), (by first | assumption | omega), (by first | assumption | omega), (by first | assumption | omega), (by first | assumption | omega), (by first | assumption | omega), (by first | assumption | exact ALLC_i (by assumption) (by assumption) (by omega) | exact ALLC_tr (by assumption) (by assumption) | exact ALLC_tr (by assumption) (ALLC_i (by assumption) (by assumption) (by omega)))⟩
  refine L208 401 (x0 + 1) s128 ⟨(by omega), hf_s128, hOR_s128, hBE_s128, hFI_s128, (by first | assumption | omega), (by first | assumption | omega), (by first | assumption | omega), (by first | assumption | omega), (by first | assumption | omega), (by first | assumption | omega), (by first | assumption | exact ALLC_i (by assumption) (by assumption) (by omega) | exact ALLC_tr (by assumption) (by assumption) | exact ALLC_tr (by assumption) (ALLC_i (by assumption) (by assumption) (by omega)))⟩ (by omega) (fun v297 s298 hw hq => ?_)
  obtain ⟨hq299, hf_s298, hOR_s298, hBE_s298, hFI_s298, hq300, hq301, hq302, hq303, hq304, hq305, hq306⟩ := hq
  replace hT := gl2y hT hw
  exact k_rho hT (k_vret (pc := 174) E dX9_rowOf_174)

def f_X9_drawn (x0 : Int) (x1 : Int) (x2 : Int) (s0 : gMem) : gRes := (if (f_X9_in x0 0 99999) = 0 then ((-2), s0) else (if (f_X9_in x1 0 400) = 0 then ((-2), s0) else (if (f_X9_in x2 0 2) = 0 then ((-2), s0) else gb (f_X9_rowOf x0 x1 s0) (fun r11 s12 => (if x2 = 0 then ((s12 36 0), s12) else (if x2 = 1 then ((s12 35 0), s12) else ((s12 37 0), s12)))))))
theorem f_X9_drawn_e (x0 : Int) (x1 : Int) (x2 : Int) (s0 : gMem) : f_X9_drawn x0 x1 x2 s0 = (if (f_X9_in x0 0 99999) = 0 then ((-2), s0) else (if (f_X9_in x1 0 400) = 0 then ((-2), s0) else (if (f_X9_in x2 0 2) = 0 then ((-2), s0) else gb (f_X9_rowOf x0 x1 s0) (fun r11 s12 => (if x2 = 0 then ((s12 36 0), s12) else (if x2 = 1 then ((s12 35 0), s12) else ((s12 37 0), s12))))))) := rfl
set_option maxRecDepth 100000 in
set_option maxHeartbeats 4000000 in
theorem f_X9_drawn_p (x0 : Int) (x1 : Int) (x2 : Int) (s0 : gMem) (hx0 : in32 x0) (hx1 : in32 x1) (hx2 : in32 x2) (hm_s0 : gMR lgM s0) (hpre0 : VS s0) (hpre1 : KN s0) (hpre2 : MO s0) (hpre3 : TD s0) (hpre4 : OR s0) (hpre5 : BE s0) (hpre6 : FI s0) (rZ : Int) (sZ : gMem) (hres : f_X9_drawn x0 x1 x2 s0 = (rZ, sZ)) : (fr [25, 26, 27, 28, 29, 30, 31, 32, 33, 35, 36, 37] s0 sZ) ∧ (gMR lgM sZ) ∧ (in32 rZ) ∧ (OR sZ) ∧ (BE sZ) ∧ (FI sZ) := by
  have hT := f_X9_drawn_e x0 x1 x2 s0
  have hf_s0 : fr [25, 26, 27, 28, 29, 30, 31, 32, 33, 35, 36, 37] s0 s0 := fr.rf _ _
  have hOR_s0 := hpre4
  have hBE_s0 := hpre5
  have hFI_s0 := hpre6
  have hp2 := f_X9_in_p x0 0 99999 (by omega) (by omega) (by omega) 
  by_cases h3 : (f_X9_in x0 0 99999) = 0
  · replace hT := hT.trans (if_pos h3)
    obtain ⟨rfl, rfl⟩ := Prod.mk.inj (hT.symm.trans hres)
    exact ⟨hf_s0, hm_s0, (by omega), hOR_s0, hBE_s0, hFI_s0⟩
  · replace hT := hT.trans (if_neg h3)
    have hp5 := f_X9_in_p x1 0 400 (by omega) (by omega) (by omega) 
    by_cases h6 : (f_X9_in x1 0 400) = 0
    · replace hT := hT.trans (if_pos h6)
      obtain ⟨rfl, rfl⟩ := Prod.mk.inj (hT.symm.trans hres)
      exact ⟨hf_s0, hm_s0, (by omega), hOR_s0, hBE_s0, hFI_s0⟩
    · replace hT := hT.trans (if_neg h6)
      have hp8 := f_X9_in_p x2 0 2 (by omega) (by omega) (by omega) 
      by_cases h9 : (f_X9_in x2 0 2) = 0
      · replace hT := hT.trans (if_pos h9)
        obtain ⟨rfl, rfl⟩ := Prod.mk.inj (hT.symm.trans hres)
        exact ⟨hf_s0, hm_s0, (by omega), hOR_s0, hBE_s0, hFI_s0⟩
      · replace hT := hT.trans (if_neg h9)
        obtain ⟨r11, s12, hs12⟩ : ∃ rr ss, (f_X9_rowOf x0 x1 s0) = (rr, ss) := ⟨_, _, rfl⟩
        replace hT := gby hT hs12
        have hp13 := f_X9_rowOf_p x0 x1 s0 (by omega) (by omega) hm_s0 hpre0 hpre1 hpre2 hpre3 hOR_s0 hBE_s0 hFI_s0 (by first | assumption | omega) (by first | assumption | omega) r11 s12 hs12
        obtain ⟨hfc_s12, hm_s12, hp14, hOR_s12, hBE_s12, hFI_s12, hp15⟩ := hp13
        have hf_s12 : fr [25, 26, 27, 28, 29, 30, 31, 32, 33, 35, 36, 37] s0 s12 := hf_s0.call (by decide) hfc_s12
        by_cases h16 : x2 = 0
        · replace hT := hT.trans (if_pos h16)
          have hr17 := (hm_s12 36 0).1 rfl
          obtain ⟨rfl, rfl⟩ := Prod.mk.inj (hT.symm.trans hres)
          exact ⟨hf_s12, hm_s12, (by omega), hOR_s12, hBE_s12, hFI_s12⟩
        · replace hT := hT.trans (if_neg h16)
          by_cases h18 : x2 = 1
          · replace hT := hT.trans (if_pos h18)
            have hr19 := (hm_s12 35 0).1 rfl
            obtain ⟨rfl, rfl⟩ := Prod.mk.inj (hT.symm.trans hres)
            exact ⟨hf_s12, hm_s12, (by omega), hOR_s12, hBE_s12, hFI_s12⟩
          · replace hT := hT.trans (if_neg h18)
            have hr20 := (hm_s12 37 0).1 rfl
            obtain ⟨rfl, rfl⟩ := Prod.mk.inj (hT.symm.trans hres)
            exact ⟨hf_s12, hm_s12, (by omega), hOR_s12, hBE_s12, hFI_s12⟩
set_option maxRecDepth 100000 in
set_option maxHeartbeats 4000000 in
theorem c_X9_drawn (l : Launch) (D : va_G) (a : Nat → Nat) (cI cJ cS cT : ClassId) (s0 : gMem) (x0 : Int) (x1 : Int) (x2 : Int) (hx0 : in32 x0) (hx1 : in32 x1) (hx2 : in32 x2) (hpre0 : VS s0) (hpre1 : KN s0) (hpre2 : MO s0) (hpre3 : TD s0) (hpre4 : OR s0) (hpre5 : BE s0) (hpre6 : FI s0) : gC l yX9_drawn cX9_drawn 4 (some .int) 7 448 D vwCl (gT cI cJ cS cT) (wdM a cI cJ) lgM kI in32 [.ref (a 0), gI x0, gI x1, gI x2] s0 (f_X9_drawn x0 x1 x2 s0) := by
  refine gC_of (by decide +kernel) (hwdM a cI cJ) (Nat.le_of_ble_eq_true rfl) ?_
  intro A p e R s m args below meth c hR E
  subst hR
  have hT := f_X9_drawn_e x0 x1 x2 s0
  have hf_s0 : fr [25, 26, 27, 28, 29, 30, 31, 32, 33, 35, 36, 37] s0 s0 := fr.rf _ _
  refine k_lv0 (lv' := [(0, .ref (a 0)), (1, gI x0), (2, gI x1), (3, gI x2)]) rfl ?_
  refine k_mr (fun hm_s0 => ?_)
  have hOR_s0 := hpre4
  have hBE_s0 := hpre5
  have hFI_s0 := hpre6
  refine k_iloadn (pc := 0) E 1 dX9_drawn_0 rfl rfl ?_
  refine k_iconst (pc := 1) E dX9_drawn_1 ?_
  refine k_ldcw (pc := 2) (n := 99999) E dX9_drawn_2 wm_1195 (by decide) ?_
  refine k_mr (fun hm_s0 => ?_)
  refine k_callS (pc := 5) (np := 3) (As := [gI x0, gI 0, gI 99999]) (st := []) E (c_X9_in l D a cI cJ cS cT s0 x0 0 99999 (by omega) (by omega) (by omega)) wm_861 wm_11 wm_859 wm_860 (by decide +kernel) ⟨by decide, by decide⟩ rfl (Nat.le_of_ble_eq_true rfl) dX9_drawn_5 (ro_kk (fun hr1 => ?_))
  have hp2 := f_X9_in_p x0 0 99999 (by omega) (by omega) (by omega) 
  refine k_st (st' := [gI (f_X9_in x0 0 99999)]) rfl ?_
  by_cases h3 : (f_X9_in x0 0 99999) = 0
  · replace hT := hT.trans (if_pos h3)
    refine k_if_eq_t (pc := 8) (tgt := 31) E (by omega) dX9_drawn_8 (by decide) h3 ?_
    refine k_bipush (pc := 31) E dX9_drawn_31 (by decide) ?_
    exact k_rho hT (k_iret (pc := 33) E dX9_drawn_33 (by omega))
  · replace hT := hT.trans (if_neg h3)
    refine k_if_eq_f (pc := 8) (tgt := 31) E (by omega) dX9_drawn_8 (by decide) h3 ?_
    refine k_iloadn (pc := 11) E 2 dX9_drawn_11 rfl rfl ?_
    refine k_iconst (pc := 12) E dX9_drawn_12 ?_
    refine k_sipush (pc := 13) E dX9_drawn_13 (by decide) ?_
    refine k_mr (fun hm_s0 => ?_)
    refine k_callS (pc := 16) (np := 3) (As := [gI x1, gI 0, gI 400]) (st := []) E (c_X9_in l D a cI cJ cS cT s0 x1 0 400 (by omega) (by omega) (by omega)) wm_861 wm_11 wm_859 wm_860 (by decide +kernel) ⟨by decide, by decide⟩ rfl (Nat.le_of_ble_eq_true rfl) dX9_drawn_16 (ro_kk (fun hr4 => ?_))
    have hp5 := f_X9_in_p x1 0 400 (by omega) (by omega) (by omega) 
    refine k_st (st' := [gI (f_X9_in x1 0 400)]) rfl ?_
    by_cases h6 : (f_X9_in x1 0 400) = 0
    · replace hT := hT.trans (if_pos h6)
      refine k_if_eq_t (pc := 19) (tgt := 31) E (by omega) dX9_drawn_19 (by decide) h6 ?_
      refine k_bipush (pc := 31) E dX9_drawn_31 (by decide) ?_
      exact k_rho hT (k_iret (pc := 33) E dX9_drawn_33 (by omega))
    · replace hT := hT.trans (if_neg h6)
      refine k_if_eq_f (pc := 19) (tgt := 31) E (by omega) dX9_drawn_19 (by decide) h6 ?_
      refine k_iloadn (pc := 22) E 3 dX9_drawn_22 rfl rfl ?_
      refine k_iconst (pc := 23) E dX9_drawn_23 ?_
      refine k_iconst (pc := 24) E dX9_drawn_24 ?_
      refine k_mr (fun hm_s0 => ?_)
      refine k_callS (pc := 25) (np := 3) (As := [gI x2, gI 0, gI 2]) (st := []) E (c_X9_in l D a cI cJ cS cT s0 x2 0 2 (by omega) (by omega) (by omega)) wm_861 wm_11 wm_859 wm_860 (by decide +kernel) ⟨by decide, by decide⟩ rfl (Nat.le_of_ble_eq_true rfl) dX9_drawn_25 (ro_kk (fun hr7 => ?_))
      have hp8 := f_X9_in_p x2 0 2 (by omega) (by omega) (by omega) 
      refine k_st (st' := [gI (f_X9_in x2 0 2)]) rfl ?_
      by_cases h9 : (f_X9_in x2 0 2) = 0
      · replace hT := hT.trans (if_pos h9)
        refine k_if_ne_f (pc := 28) (tgt := 34) E (by omega) dX9_drawn_28 (by decide) h9 ?_
        refine k_bipush (pc := 31) E dX9_drawn_31 (by decide) ?_
        exact k_rho hT (k_iret (pc := 33) E dX9_drawn_33 (by omega))
      · replace hT := hT.trans (if_neg h9)
        refine k_if_ne_t (pc := 28) (tgt := 34) E (by omega) dX9_drawn_28 (by decide) h9 ?_
        refine k_aloadn (pc := 34) E 0 dX9_drawn_34 rfl rfl ?_
        refine k_iloadn (pc := 35) E 1 dX9_drawn_35 rfl rfl ?_
        refine k_iloadn (pc := 36) E 2 dX9_drawn_36 rfl rfl ?_
        refine k_mr (fun hm_s0 => ?_)
        refine k_callV (pc := 37) (np := 2) (As := [gI x0, gI x1]) (st := []) (q0 := 0) E (c_X9_rowOf l D a cI cJ cS cT s0 x0 x1 (by omega) (by omega) hpre0 hpre1 hpre2 hpre3 hOR_s0 hBE_s0 hFI_s0 (by first | assumption | omega) (by first | assumption | omega)) wm_1209 wm_11 wm_1206 wm_1208 wp_50 (by decide +kernel) rfl rfl ⟨by decide, by decide⟩ rfl (Nat.le_of_ble_eq_true rfl) dX9_drawn_37 (fun r11 s12 hs12 hr10 => ?_)
        replace hT := gby hT hs12
        have hp13 := f_X9_rowOf_p x0 x1 s0 (by omega) (by omega) hm_s0 hpre0 hpre1 hpre2 hpre3 hOR_s0 hBE_s0 hFI_s0 (by first | assumption | omega) (by first | assumption | omega) r11 s12 hs12
        obtain ⟨hfc_s12, hm_s12, hp14, hOR_s12, hBE_s12, hFI_s12, hp15⟩ := hp13
        have hf_s12 : fr [25, 26, 27, 28, 29, 30, 31, 32, 33, 35, 36, 37] s0 s12 := hf_s0.call (by decide) hfc_s12
        refine k_st (st' := []) rfl ?_
        refine k_iloadn (pc := 40) E 3 dX9_drawn_40 rfl rfl ?_
        by_cases h16 : x2 = 0
        · replace hT := hT.trans (if_pos h16)
          refine k_if_ne_f (pc := 41) (tgt := 51) E (by omega) dX9_drawn_41 (by decide) h16 ?_
          refine k_aloadn (pc := 44) E 0 dX9_drawn_44 rfl rfl ?_
          refine k_getfI (pc := 45) (q0 := 0) (f := 36) (k := 36) E inX9 rfl rfl (by decide) wm_934 rfl rfl rfl dX9_drawn_45 (fun hr17 => ?_)
          refine k_goto (pc := 48) (tgt := 67) E dX9_drawn_48 (by decide) ?_
          exact k_rho hT (k_iret (pc := 67) E dX9_drawn_67 (by omega))
        · replace hT := hT.trans (if_neg h16)
          refine k_if_ne_t (pc := 41) (tgt := 51) E (by omega) dX9_drawn_41 (by decide) h16 ?_
          refine k_iloadn (pc := 51) E 3 dX9_drawn_51 rfl rfl ?_
          refine k_iconst (pc := 52) E dX9_drawn_52 ?_
          by_cases h18 : x2 = 1
          · replace hT := hT.trans (if_pos h18)
            refine k_icmp_ne_f (pc := 53) (tgt := 63) E (by omega) (by omega) dX9_drawn_53 (by decide) h18 ?_
            refine k_aloadn (pc := 56) E 0 dX9_drawn_56 rfl rfl ?_
            refine k_getfI (pc := 57) (q0 := 0) (f := 35) (k := 35) E inX9 rfl rfl (by decide) wm_933 rfl rfl rfl dX9_drawn_57 (fun hr19 => ?_)
            refine k_goto (pc := 60) (tgt := 67) E dX9_drawn_60 (by decide) ?_
            exact k_rho hT (k_iret (pc := 67) E dX9_drawn_67 (by omega))
          · replace hT := hT.trans (if_neg h18)
            refine k_icmp_ne_t (pc := 53) (tgt := 63) E (by omega) (by omega) dX9_drawn_53 (by decide) h18 ?_
            refine k_aloadn (pc := 63) E 0 dX9_drawn_63 rfl rfl ?_
            refine k_getfI (pc := 64) (q0 := 0) (f := 37) (k := 37) E inX9 rfl rfl (by decide) wm_935 rfl rfl rfl dX9_drawn_64 (fun hr20 => ?_)
            exact k_rho hT (k_iret (pc := 67) E dX9_drawn_67 (by omega))

def w_X9_odds_52 (c1 : Int) (c2 : Int) (c3 : Int) (c4 : Int) : Nat → Int → Int → gMem → Int × Int × gMem
  | 0, v13, v14, s15 => (v13, v14, s15)
  | n16 + 1, v13, v14, s15 => (if v14 < c2 then gb (f_X9_rowOf (c1 + v14) c3 s15) (fun r19 s20 => (gl ((if (s20 35 0) = 65535 then 1 else 0)) (fun v27 => (w_X9_odds_52 c1 c2 c3 c4 n16 (v13 + v27) (v14 + 1) s20)))) else (v13, v14, s15))
theorem w_X9_odds_52_s (c1 : Int) (c2 : Int) (c3 : Int) (c4 : Int) (n16 : Nat) (v13 : Int) (v14 : Int) (s15 : gMem) : w_X9_odds_52 c1 c2 c3 c4 (n16 + 1) v13 v14 s15 = (if v14 < c2 then gb (f_X9_rowOf (c1 + v14) c3 s15) (fun r19 s20 => (gl ((if (s20 35 0) = 65535 then 1 else 0)) (fun v27 => (w_X9_odds_52 c1 c2 c3 c4 n16 (v13 + v27) (v14 + 1) s20)))) else (v13, v14, s15)) := rfl
def f_X9_odds (x0 : Int) (x1 : Int) (x2 : Int) (x3 : Int) (s0 : gMem) : gRes := (if (f_X9_in x0 0 99999) = 0 then ((-4611686018427387904), s0) else (if (f_X9_in x1 1 20) = 0 then ((-4611686018427387904), s0) else (if (f_X9_in x2 0 400) = 0 then ((-4611686018427387904), s0) else (if (f_X9_in x3 0 1) = 0 then ((-4611686018427387904), s0) else (gl3 (w_X9_odds_52 x0 x1 x2 x3 21 0 0 s0) (fun v63 v64 s65 => ((f_X9_lowest v63 x1 x3), s65)))))))
theorem f_X9_odds_e (x0 : Int) (x1 : Int) (x2 : Int) (x3 : Int) (s0 : gMem) : f_X9_odds x0 x1 x2 x3 s0 = (if (f_X9_in x0 0 99999) = 0 then ((-4611686018427387904), s0) else (if (f_X9_in x1 1 20) = 0 then ((-4611686018427387904), s0) else (if (f_X9_in x2 0 400) = 0 then ((-4611686018427387904), s0) else (if (f_X9_in x3 0 1) = 0 then ((-4611686018427387904), s0) else (gl3 (w_X9_odds_52 x0 x1 x2 x3 21 0 0 s0) (fun v63 v64 s65 => ((f_X9_lowest v63 x1 x3), s65))))))) := rfl
set_option maxRecDepth 100000 in
set_option maxHeartbeats 4000000 in
theorem f_X9_odds_p (x0 : Int) (x1 : Int) (x2 : Int) (x3 : Int) (s0 : gMem) (hx0 : in32 x0) (hx1 : in32 x1) (hx2 : in32 x2) (hx3 : in32 x3) (hm_s0 : gMR lgM s0) (hpre0 : VS s0) (hpre1 : KN s0) (hpre2 : MO s0) (hpre3 : TD s0) (hpre4 : OR s0) (hpre5 : BE s0) (hpre6 : FI s0) (rZ : Int) (sZ : gMem) (hres : f_X9_odds x0 x1 x2 x3 s0 = (rZ, sZ)) : (fr [25, 26, 27, 28, 29, 30, 31, 32, 33, 35, 36, 37] s0 sZ) ∧ (gMR lgM sZ) ∧ (in64 rZ) ∧ (OR sZ) ∧ (BE sZ) ∧ (FI sZ) := by
  have hT := f_X9_odds_e x0 x1 x2 x3 s0
  have hf_s0 : fr [25, 26, 27, 28, 29, 30, 31, 32, 33, 35, 36, 37] s0 s0 := fr.rf _ _
  have hOR_s0 := hpre4
  have hBE_s0 := hpre5
  have hFI_s0 := hpre6
  have hp2 := f_X9_in_p x0 0 99999 (by omega) (by omega) (by omega) 
  by_cases h3 : (f_X9_in x0 0 99999) = 0
  · replace hT := hT.trans (if_pos h3)
    obtain ⟨rfl, rfl⟩ := Prod.mk.inj (hT.symm.trans hres)
    exact ⟨hf_s0, hm_s0, (by omega), hOR_s0, hBE_s0, hFI_s0⟩
  · replace hT := hT.trans (if_neg h3)
    have hp5 := f_X9_in_p x1 1 20 (by omega) (by omega) (by omega) 
    by_cases h6 : (f_X9_in x1 1 20) = 0
    · replace hT := hT.trans (if_pos h6)
      obtain ⟨rfl, rfl⟩ := Prod.mk.inj (hT.symm.trans hres)
      exact ⟨hf_s0, hm_s0, (by omega), hOR_s0, hBE_s0, hFI_s0⟩
    · replace hT := hT.trans (if_neg h6)
      have hp8 := f_X9_in_p x2 0 400 (by omega) (by omega) (by omega) 
      by_cases h9 : (f_X9_in x2 0 400) = 0
      · replace hT := hT.trans (if_pos h9)
        obtain ⟨rfl, rfl⟩ := Prod.mk.inj (hT.symm.trans hres)
        exact ⟨hf_s0, hm_s0, (by omega), hOR_s0, hBE_s0, hFI_s0⟩
      · replace hT := hT.trans (if_neg h9)
        have hp11 := f_X9_in_p x3 0 1 (by omega) (by omega) (by omega) 
        by_cases h12 : (f_X9_in x3 0 1) = 0
        · replace hT := hT.trans (if_pos h12)
          obtain ⟨rfl, rfl⟩ := Prod.mk.inj (hT.symm.trans hres)
          exact ⟨hf_s0, hm_s0, (by omega), hOR_s0, hBE_s0, hFI_s0⟩
        · replace hT := hT.trans (if_neg h12)
          have L35 : ∀ (n36 : Nat) (v32 : Int) (v33 : Int) (s34 : gMem), ((in64 v32) ∧ (in32 v33) ∧ (fr [25, 26, 27, 28, 29, 30, 31, 32, 33, 35, 36, 37] s0 s34) ∧ (gMR lgM s34) ∧ (OR s34) ∧ (BE s34) ∧ (FI s34) ∧ (0 ≤ v33 ∧ v33 ≤ x1) ∧ (0 ≤ v32 ∧ v32 ≤ v33)) → x1 - v33 < (n36 : Int) → (∀ (w37 : Int) (w38 : Int) (s39 : gMem), (w_X9_odds_52 x0 x1 x2 x3 n36 v32 v33 s34) = (w37, w38, s39) → ((in64 w37) ∧ (in32 w38) ∧ (fr [25, 26, 27, 28, 29, 30, 31, 32, 33, 35, 36, 37] s0 s39) ∧ (gMR lgM s39) ∧ (OR s39) ∧ (BE s39) ∧ (FI s39) ∧ (0 ≤ w38 ∧ w38 ≤ x1) ∧ (0 ≤ w37 ∧ w37 ≤ w38)) → (fr [25, 26, 27, 28, 29, 30, 31, 32, 33, 35, 36, 37] s0 sZ) ∧ (gMR lgM sZ) ∧ (in64 rZ) ∧ (OR sZ) ∧ (BE sZ) ∧ (FI sZ)) → (fr [25, 26, 27, 28, 29, 30, 31, 32, 33, 35, 36, 37] s0 sZ) ∧ (gMR lgM sZ) ∧ (in64 rZ) ∧ (OR sZ) ∧ (BE sZ) ∧ (FI sZ) := by
            intro n36; induction n36 with
            | zero =>
              intro v32 v33 s34 hq hm hk
              exfalso
              obtain ⟨hq55, hq56, hf_s34, hm_s34, hOR_s34, hBE_s34, hFI_s34, hq57, hq58⟩ := hq
              omega
            | succ n36 ih =>
              intro v32 v33 s34 hq hm hk
              obtain ⟨hq59, hq60, hf_s34, hm_s34, hOR_s34, hBE_s34, hFI_s34, hq61, hq62⟩ := hq
              have hT := w_X9_odds_52_s x0 x1 x2 x3 n36 v32 v33 s34
              by_cases h40 : v33 < x1
              · replace hT := hT.trans (if_pos h40)
                obtain ⟨r42, s43, hs43⟩ : ∃ rr ss, (f_X9_rowOf (x0 + v33) x2 s34) = (rr, ss) := ⟨_, _, rfl⟩
                replace hT := gby hT hs43
                have hp44 := f_X9_rowOf_p (x0 + v33) x2 s34 (by omega) (by omega) hm_s34 (by unfold VS; rw [hf_s34 5 (by decide), hf_s34 6 (by decide), hf_s34 7 (by decide), hf_s34 8 (by decide)]; exact hpre0) (by unfold KN; rw [hf_s34 0 (by decide)]; exact hpre1) (by unfold MO; rw [hf_s34 1 (by decide)]; exact hpre2) (by unfold TD; rw [hf_s34 2 (by decide)]; exact hpre3) hOR_s34 hBE_s34 hFI_s34 (by first | assumption | omega) (by first | assumption | omega) r42 s43 hs43
                obtain ⟨hfc_s43, hm_s43, hp45, hOR_s43, hBE_s43, hFI_s43, hp46⟩ := hp44
                have hf_s43 : fr [25, 26, 27, 28, 29, 30, 31, 32, 33, 35, 36, 37] s0 s43 := hf_s34.call (by decide) hfc_s43
                have hr47 := (hm_s43 35 0).1 rfl
                obtain ⟨z54, hz54, hT⟩ := gl1x hT
                have j49 : ∀ (v50 : Int), ((in64 v50) ∧ (0 ≤ v50 ∧ v50 ≤ 20) ∧ (0 ≤ v50 ∧ v50 ≤ 1)) → z54 = v50 → (fr [25, 26, 27, 28, 29, 30, 31, 32, 33, 35, 36, 37] s0 sZ) ∧ (gMR lgM sZ) ∧ (in64 rZ) ∧ (OR sZ) ∧ (BE sZ) ∧ (FI sZ) := by
                  intro v50 hq hz
                  obtain ⟨hq51, hq52, hq53⟩ := hq
                  replace hT := gl1y hT hz
                  exact ih (v32 + v50) (v33 + 1) s43 ⟨(by omega), (by omega), hf_s43, hm_s43, hOR_s43, hBE_s43, hFI_s43, (by first | assumption | omega), (by first | assumption | omega)⟩ (by omega) (fun w37 w38 s39 hw hi => hk w37 w38 s39 (hT.trans hw) hi)
                replace hT := hz54
                by_cases h48 : (s43 35 0) = 65535
                · replace hT := hT.trans (if_pos h48)
                  exact j49 1 ⟨(by omega), (by first | assumption | omega), (by first | assumption | omega)⟩ hT
                · replace hT := hT.trans (if_neg h48)
                  exact j49 0 ⟨(by omega), (by first | assumption | omega), (by first | assumption | omega)⟩ hT
              · replace hT := hT.trans (if_neg h40)
                exact hk v32 v33 s34 hT ⟨(by omega), (by omega), hf_s34, hm_s34, hOR_s34, hBE_s34, hFI_s34, (by first | assumption | omega), (by first | assumption | omega)⟩
          refine L35 21 0 0 s0 ⟨(by omega), (by omega), hf_s0, hm_s0, hOR_s0, hBE_s0, hFI_s0, (by first | assumption | omega), (by first | assumption | omega)⟩ (by omega) (fun v63 v64 s65 hw hq => ?_)
          obtain ⟨hq66, hq67, hf_s65, hm_s65, hOR_s65, hBE_s65, hFI_s65, hq68, hq69⟩ := hq
          replace hT := gl3y hT hw
          have hp71 := f_X9_lowest_p v63 x1 x3 (by omega) (by omega) (by omega) (by first | assumption | omega) (by first | assumption | omega)
          obtain ⟨rfl, rfl⟩ := Prod.mk.inj (hT.symm.trans hres)
          exact ⟨hf_s65, hm_s65, (by omega), hOR_s65, hBE_s65, hFI_s65⟩
set_option maxRecDepth 100000 in
set_option maxHeartbeats 4000000 in
theorem c_X9_odds (l : Launch) (D : va_G) (a : Nat → Nat) (cI cJ cS cT : ClassId) (s0 : gMem) (x0 : Int) (x1 : Int) (x2 : Int) (x3 : Int) (hx0 : in32 x0) (hx1 : in32 x1) (hx2 : in32 x2) (hx3 : in32 x3) (hpre0 : VS s0) (hpre1 : KN s0) (hpre2 : MO s0) (hpre3 : TD s0) (hpre4 : OR s0) (hpre5 : BE s0) (hpre6 : FI s0) : gC l yX9_odds cX9_odds 8 (some .long) 7 448 D vwCl (gT cI cJ cS cT) (wdM a cI cJ) lgM kJ in64 [.ref (a 0), gI x0, gI x1, gI x2, gI x3] s0 (f_X9_odds x0 x1 x2 x3 s0) := by
  refine gC_of (by decide +kernel) (hwdM a cI cJ) (Nat.le_of_ble_eq_true rfl) ?_
  intro A p e R s m args below meth c hR E
  subst hR
  have hT := f_X9_odds_e x0 x1 x2 x3 s0
  have hf_s0 : fr [25, 26, 27, 28, 29, 30, 31, 32, 33, 35, 36, 37] s0 s0 := fr.rf _ _
  refine k_lv0 (lv' := [(0, .ref (a 0)), (1, gI x0), (2, gI x1), (3, gI x2), (4, gI x3)]) rfl ?_
  refine k_mr (fun hm_s0 => ?_)
  have hOR_s0 := hpre4
  have hBE_s0 := hpre5
  have hFI_s0 := hpre6
  refine k_iloadn (pc := 0) E 1 dX9_odds_0 rfl rfl ?_
  refine k_iconst (pc := 1) E dX9_odds_1 ?_
  refine k_ldcw (pc := 2) (n := 99999) E dX9_odds_2 wm_1195 (by decide) ?_
  refine k_mr (fun hm_s0 => ?_)
  refine k_callS (pc := 5) (np := 3) (As := [gI x0, gI 0, gI 99999]) (st := []) E (c_X9_in l D a cI cJ cS cT s0 x0 0 99999 (by omega) (by omega) (by omega)) wm_861 wm_11 wm_859 wm_860 (by decide +kernel) ⟨by decide, by decide⟩ rfl (Nat.le_of_ble_eq_true rfl) dX9_odds_5 (ro_kk (fun hr1 => ?_))
  have hp2 := f_X9_in_p x0 0 99999 (by omega) (by omega) (by omega) 
  refine k_st (st' := [gI (f_X9_in x0 0 99999)]) rfl ?_
  by_cases h3 : (f_X9_in x0 0 99999) = 0
  · replace hT := hT.trans (if_pos h3)
    refine k_if_eq_t (pc := 8) (tgt := 42) E (by omega) dX9_odds_8 (by decide) h3 ?_
    refine k_ldc2 (pc := 42) (n := (-4611686018427387904)) E dX9_odds_42 wm_1128 (by decide) ?_
    exact k_rho hT (k_lret (pc := 45) E dX9_odds_45 (by omega))
  · replace hT := hT.trans (if_neg h3)
    refine k_if_eq_f (pc := 8) (tgt := 42) E (by omega) dX9_odds_8 (by decide) h3 ?_
    refine k_iloadn (pc := 11) E 2 dX9_odds_11 rfl rfl ?_
    refine k_iconst (pc := 12) E dX9_odds_12 ?_
    refine k_bipush (pc := 13) E dX9_odds_13 (by decide) ?_
    refine k_mr (fun hm_s0 => ?_)
    refine k_callS (pc := 15) (np := 3) (As := [gI x1, gI 1, gI 20]) (st := []) E (c_X9_in l D a cI cJ cS cT s0 x1 1 20 (by omega) (by omega) (by omega)) wm_861 wm_11 wm_859 wm_860 (by decide +kernel) ⟨by decide, by decide⟩ rfl (Nat.le_of_ble_eq_true rfl) dX9_odds_15 (ro_kk (fun hr4 => ?_))
    have hp5 := f_X9_in_p x1 1 20 (by omega) (by omega) (by omega) 
    refine k_st (st' := [gI (f_X9_in x1 1 20)]) rfl ?_
    by_cases h6 : (f_X9_in x1 1 20) = 0
    · replace hT := hT.trans (if_pos h6)
      refine k_if_eq_t (pc := 18) (tgt := 42) E (by omega) dX9_odds_18 (by decide) h6 ?_
      refine k_ldc2 (pc := 42) (n := (-4611686018427387904)) E dX9_odds_42 wm_1128 (by decide) ?_
      exact k_rho hT (k_lret (pc := 45) E dX9_odds_45 (by omega))
    · replace hT := hT.trans (if_neg h6)
      refine k_if_eq_f (pc := 18) (tgt := 42) E (by omega) dX9_odds_18 (by decide) h6 ?_
      refine k_iloadn (pc := 21) E 3 dX9_odds_21 rfl rfl ?_
      refine k_iconst (pc := 22) E dX9_odds_22 ?_
      refine k_sipush (pc := 23) E dX9_odds_23 (by decide) ?_
      refine k_mr (fun hm_s0 => ?_)
      refine k_callS (pc := 26) (np := 3) (As := [gI x2, gI 0, gI 400]) (st := []) E (c_X9_in l D a cI cJ cS cT s0 x2 0 400 (by omega) (by omega) (by omega)) wm_861 wm_11 wm_859 wm_860 (by decide +kernel) ⟨by decide, by decide⟩ rfl (Nat.le_of_ble_eq_true rfl) dX9_odds_26 (ro_kk (fun hr7 => ?_))
      have hp8 := f_X9_in_p x2 0 400 (by omega) (by omega) (by omega) 
      refine k_st (st' := [gI (f_X9_in x2 0 400)]) rfl ?_
      by_cases h9 : (f_X9_in x2 0 400) = 0
      · replace hT := hT.trans (if_pos h9)
        refine k_if_eq_t (pc := 29) (tgt := 42) E (by omega) dX9_odds_29 (by decide) h9 ?_
        refine k_ldc2 (pc := 42) (n := (-4611686018427387904)) E dX9_odds_42 wm_1128 (by decide) ?_
        exact k_rho hT (k_lret (pc := 45) E dX9_odds_45 (by omega))
      · replace hT := hT.trans (if_neg h9)
        refine k_if_eq_f (pc := 29) (tgt := 42) E (by omega) dX9_odds_29 (by decide) h9 ?_
        refine k_iload (pc := 32) E 4 dX9_odds_32 rfl ?_
        refine k_iconst (pc := 34) E dX9_odds_34 ?_
        refine k_iconst (pc := 35) E dX9_odds_35 ?_
        refine k_mr (fun hm_s0 => ?_)
        refine k_callS (pc := 36) (np := 3) (As := [gI x3, gI 0, gI 1]) (st := []) E (c_X9_in l D a cI cJ cS cT s0 x3 0 1 (by omega) (by omega) (by omega)) wm_861 wm_11 wm_859 wm_860 (by decide +kernel) ⟨by decide, by decide⟩ rfl (Nat.le_of_ble_eq_true rfl) dX9_odds_36 (ro_kk (fun hr10 => ?_))
        have hp11 := f_X9_in_p x3 0 1 (by omega) (by omega) (by omega) 
        refine k_st (st' := [gI (f_X9_in x3 0 1)]) rfl ?_
        by_cases h12 : (f_X9_in x3 0 1) = 0
        · replace hT := hT.trans (if_pos h12)
          refine k_if_ne_f (pc := 39) (tgt := 46) E (by omega) dX9_odds_39 (by decide) h12 ?_
          refine k_ldc2 (pc := 42) (n := (-4611686018427387904)) E dX9_odds_42 wm_1128 (by decide) ?_
          exact k_rho hT (k_lret (pc := 45) E dX9_odds_45 (by omega))
        · replace hT := hT.trans (if_neg h12)
          refine k_if_ne_t (pc := 39) (tgt := 46) E (by omega) dX9_odds_39 (by decide) h12 ?_
          refine k_lconst0 (pc := 46) E dX9_odds_46 ?_
          refine k_lstore (pc := 47) (lv' := [(5, gL 0), (0, .ref (a 0)), (1, gI x0), (2, gI x1), (3, gI x2), (4, gI x3)]) E dX9_odds_47 (by decide) rfl ?_
          refine k_iconst (pc := 49) E dX9_odds_49 ?_
          refine k_istore (pc := 50) (lv' := [(7, gI 0), (5, gL 0), (0, .ref (a 0)), (1, gI x0), (2, gI x1), (3, gI x2), (4, gI x3)]) E dX9_odds_50 (by decide) rfl ?_
          have L35 : ∀ (n36 : Nat) (v32 : Int) (v33 : Int) (s34 : gMem), ((in64 v32) ∧ (in32 v33) ∧ (fr [25, 26, 27, 28, 29, 30, 31, 32, 33, 35, 36, 37] s0 s34) ∧ (OR s34) ∧ (BE s34) ∧ (FI s34) ∧ (0 ≤ v33 ∧ v33 ≤ x1) ∧ (0 ≤ v32 ∧ v32 ≤ v33)) → x1 - v33 < (n36 : Int) → (∀ (w37 : Int) (w38 : Int) (s39 : gMem), (w_X9_odds_52 x0 x1 x2 x3 n36 v32 v33 s34) = (w37, w38, s39) → ((in64 w37) ∧ (in32 w38) ∧ (fr [25, 26, 27, 28, 29, 30, 31, 32, 33, 35, 36, 37] s0 s39) ∧ (OR s39) ∧ (BE s39) ∧ (FI s39) ∧ (0 ≤ w38 ∧ w38 ≤ x1) ∧ (0 ≤ w37 ∧ w37 ≤ w38)) → gK D vwCl (wdM a cI cJ) lgM A p l e { frames := 7, cells := 0, slots := 0, locals := 448 } s m args below meth c 8 (gQQ D vwCl (wdM a cI cJ) lgM A kJ in64 below args s) (f_X9_odds x0 x1 x2 x3 s0) s39 92 [(2, gI x1), (4, gI x3), (5, gL w37)] []) → gK D vwCl (wdM a cI cJ) lgM A p l e { frames := 7, cells := 0, slots := 0, locals := 448 } s m args below meth c 8 (gQQ D vwCl (wdM a cI cJ) lgM A kJ in64 below args s) (f_X9_odds x0 x1 x2 x3 s0) s34 52 [(0, .ref (a 0)), (1, gI x0), (2, gI x1), (3, gI x2), (4, gI x3), (5, gL v32), (7, gI v33)] [] := by
            intro n36; induction n36 with
            | zero =>
              intro v32 v33 s34 hq hm hk
              exfalso
              obtain ⟨hq55, hq56, hf_s34, hOR_s34, hBE_s34, hFI_s34, hq57, hq58⟩ := hq
              omega
            | succ n36 ih =>
              intro v32 v33 s34 hq hm hk
              obtain ⟨hq59, hq60, hf_s34, hOR_s34, hBE_s34, hFI_s34, hq61, hq62⟩ := hq
              have hT := w_X9_odds_52_s x0 x1 x2 x3 n36 v32 v33 s34
              refine k_iload (pc := 52) E 6 dX9_odds_52 rfl ?_
              refine k_iloadn (pc := 54) E 2 dX9_odds_54 rfl rfl ?_
              by_cases h40 : v33 < x1
              · replace hT := hT.trans (if_pos h40)
                refine k_icmp_ge_f (pc := 55) (tgt := 92) E (by omega) (by omega) dX9_odds_55 (by decide) h40 ?_
                refine k_aloadn (pc := 58) E 0 dX9_odds_58 rfl rfl ?_
                refine k_iloadn (pc := 59) E 1 dX9_odds_59 rfl rfl ?_
                refine k_iload (pc := 60) E 6 dX9_odds_60 rfl ?_
                refine k_iadd (pc := 62) E dX9_odds_62 ?_
                refine k_iloadn (pc := 63) E 3 dX9_odds_63 rfl rfl ?_
                refine k_mr (fun hm_s34 => ?_)
                refine k_callV (pc := 64) (np := 2) (As := [gI (x0 + v33), gI x2]) (st := []) (q0 := 0) E (c_X9_rowOf l D a cI cJ cS cT s34 (x0 + v33) x2 (by omega) (by omega) (by unfold VS; rw [hf_s34 5 (by decide), hf_s34 6 (by decide), hf_s34 7 (by decide), hf_s34 8 (by decide)]; exact hpre0) (by unfold KN; rw [hf_s34 0 (by decide)]; exact hpre1) (by unfold MO; rw [hf_s34 1 (by decide)]; exact hpre2) (by unfold TD; rw [hf_s34 2 (by decide)]; exact hpre3) hOR_s34 hBE_s34 hFI_s34 (by first | assumption | omega) (by first | assumption | omega)) wm_1209 wm_11 wm_1206 wm_1208 wp_50 (by decide +kernel) rfl rfl ⟨by decide, by decide⟩ rfl (Nat.le_of_ble_eq_true rfl) dX9_odds_64 (fun r42 s43 hs43 hr41 => ?_)
                replace hT := gby hT hs43
                have hp44 := f_X9_rowOf_p (x0 + v33) x2 s34 (by omega) (by omega) hm_s34 (by unfold VS; rw [hf_s34 5 (by decide), hf_s34 6 (by decide), hf_s34 7 (by decide), hf_s34 8 (by decide)]; exact hpre0) (by unfold KN; rw [hf_s34 0 (by decide)]; exact hpre1) (by unfold MO; rw [hf_s34 1 (by decide)]; exact hpre2) (by unfold TD; rw [hf_s34 2 (by decide)]; exact hpre3) hOR_s34 hBE_s34 hFI_s34 (by first | assumption | omega) (by first | assumption | omega) r42 s43 hs43
                obtain ⟨hfc_s43, hm_s43, hp45, hOR_s43, hBE_s43, hFI_s43, hp46⟩ := hp44
                have hf_s43 : fr [25, 26, 27, 28, 29, 30, 31, 32, 33, 35, 36, 37] s0 s43 := hf_s34.call (by decide) hfc_s43
                refine k_st (st' := []) rfl ?_
                refine k_lload (pc := 67) E 5 dX9_odds_67 rfl ?_
                refine k_aloadn (pc := 69) E 0 dX9_odds_69 rfl rfl ?_
                refine k_getfI (pc := 70) (q0 := 0) (f := 35) (k := 35) E inX9 rfl rfl (by decide) wm_933 rfl rfl rfl dX9_odds_70 (fun hr47 => ?_)
                refine k_ldc (pc := 73) (n := 65535) E dX9_odds_73 wm_1021 (by decide) ?_
                obtain ⟨z54, hz54, hT⟩ := gl1x hT
                have j49 : ∀ (v50 : Int), ((in64 v50) ∧ (0 ≤ v50 ∧ v50 ≤ 20) ∧ (0 ≤ v50 ∧ v50 ≤ 1)) → z54 = v50 → gK D vwCl (wdM a cI cJ) lgM A p l e { frames := 7, cells := 0, slots := 0, locals := 448 } s m args below meth c 8 (gQQ D vwCl (wdM a cI cJ) lgM A kJ in64 below args s) (f_X9_odds x0 x1 x2 x3 s0) s43 83 [(0, .ref (a 0)), (1, gI x0), (2, gI x1), (3, gI x2), (4, gI x3), (7, gI v33)] [gL v50, gL v32] := by
                  intro v50 hq hz
                  obtain ⟨hq51, hq52, hq53⟩ := hq
                  replace hT := gl1y hT hz
                  refine k_ladd (pc := 83) E dX9_odds_83 ?_
                  refine k_lstore (pc := 84) (lv' := [(5, gL (v32 + v50)), (0, .ref (a 0)), (1, gI x0), (2, gI x1), (3, gI x2), (4, gI x3), (7, gI v33)]) E dX9_odds_84 (by decide) rfl ?_
                  refine k_iinc (pc := 86) (lv' := [(7, gI (v33 + 1)), (5, gL (v32 + v50)), (0, .ref (a 0)), (1, gI x0), (2, gI x1), (3, gI x2), (4, gI x3)]) E 6 dX9_odds_86 rfl (by decide) rfl ?_
                  refine k_goto (pc := 89) (tgt := 52) E dX9_odds_89 (by decide) ?_
                  refine k_lv (lv' := [(0, .ref (a 0)), (1, gI x0), (2, gI x1), (3, gI x2), (4, gI x3), (5, gL (v32 + v50)), (7, gI (v33 + 1))]) [2, 3, 4, 5, 6, 1, 0] rfl ?_
                  exact ih (v32 + v50) (v33 + 1) s43 ⟨(by omega), (by omega), hf_s43, hOR_s43, hBE_s43, hFI_s43, (by first | assumption | omega), (by first | assumption | omega)⟩ (by omega) (fun w37 w38 s39 hw hi => hk w37 w38 s39 (hT.trans hw) hi)
                replace hT := hz54
                by_cases h48 : (s43 35 0) = 65535
                · replace hT := hT.trans (if_pos h48)
                  refine k_icmp_ne_f (pc := 75) (tgt := 82) E (by omega) (by omega) dX9_odds_75 (by decide) h48 ?_
                  refine k_lconst1 (pc := 78) E dX9_odds_78 ?_
                  refine k_goto (pc := 79) (tgt := 83) E dX9_odds_79 (by decide) ?_
                  refine k_lv (lv' := [(0, .ref (a 0)), (1, gI x0), (2, gI x1), (3, gI x2), (4, gI x3), (7, gI v33)]) [0, 1, 2, 3, 4, 6] rfl ?_
                  exact j49 1 ⟨(by omega), (by first | assumption | omega), (by first | assumption | omega)⟩ hT
                · replace hT := hT.trans (if_neg h48)
                  refine k_icmp_ne_t (pc := 75) (tgt := 82) E (by omega) (by omega) dX9_odds_75 (by decide) h48 ?_
                  refine k_lconst0 (pc := 82) E dX9_odds_82 ?_
                  refine k_lv (lv' := [(0, .ref (a 0)), (1, gI x0), (2, gI x1), (3, gI x2), (4, gI x3), (7, gI v33)]) [0, 1, 2, 3, 4, 6] rfl ?_
                  exact j49 0 ⟨(by omega), (by first | assumption | omega), (by first | assumption | omega)⟩ hT
              · replace hT := hT.trans (if_neg h40)
                refine k_icmp_ge_t (pc := 55) (tgt := 92) E (by omega) (by omega) dX9_odds_55 (by decide) h40 ?_
                refine k_lv (lv' := [(2, gI x1), (4, gI x3), (5, gL v32)]) [2, 4, 5] rfl ?_
                exact hk v32 v33 s34 hT ⟨(by omega), (by omega), hf_s34, hOR_s34, hBE_s34, hFI_s34, (by first | assumption | omega), (by first | assumption | omega)⟩
          refine k_lv (lv' := [(0, .ref (a 0)), (1, gI x0), (2, gI x1), (3, gI x2), (4, gI x3), (5, gL 0), (7, gI 0)]) [2, 3, 4, 5, 6, 1, 0] rfl ?_
          refine L35 21 0 0 s0 ⟨(by omega), (by omega), hf_s0, hOR_s0, hBE_s0, hFI_s0, (by first | assumption | omega), (by first | assumption | omega)⟩ (by omega) (fun v63 v64 s65 hw hq => ?_)
          obtain ⟨hq66, hq67, hf_s65, hOR_s65, hBE_s65, hFI_s65, hq68, hq69⟩ := hq
          replace hT := gl3y hT hw
          refine k_lload (pc := 92) E 2 dX9_odds_92 rfl ?_
          refine k_iloadn (pc := 94) E 0 dX9_odds_94 rfl rfl ?_
          refine k_i2l (pc := 95) E dX9_odds_95 (by omega) ?_
          refine k_iload (pc := 96) E 1 dX9_odds_96 rfl ?_
          refine k_callS (pc := 98) (np := 3) (As := [gL v63, gL x1, gI x3]) (st := []) E (c_X9_lowest l D a cI cJ cS cT s65 v63 x1 x3 (by omega) (by omega) (by omega) (by first | assumption | omega) (by first | assumption | omega)) wm_1216 wm_11 wm_1214 wm_1215 (by decide +kernel) ⟨by decide, by decide⟩ rfl (Nat.le_of_ble_eq_true rfl) dX9_odds_98 (ro_kk (fun hr70 => ?_))
          refine k_st (st' := [gL (f_X9_lowest v63 x1 x3)]) rfl ?_
          exact k_rho hT (k_lret (pc := 101) E dX9_odds_101 (by omega))
