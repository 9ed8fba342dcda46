theorem wp_28 : Cond.selects RX9 yX9_puts yX9_puts ∈ gBIG := gm (List.mem_of_getElem? (i := 28) (by decide +kernel)) (by decide +kernel)
theorem wp_29 : Cond.selects RX9 yX9_unwinds yX9_unwinds ∈ gBIG := gm (List.mem_of_getElem? (i := 29) (by decide +kernel)) (by decide +kernel)
theorem wm_871 : Cond.methodLink RX9 120 yX9_puts ∈ gBIG := gm (List.mem_of_getElem? (i := 925) (by decide +kernel)) (by decide +kernel)
theorem wm_873 : Cond.instanceMethod yX9_puts ∈ gBIG := gm (List.mem_of_getElem? (i := 927) (by decide +kernel)) (by decide +kernel)
theorem wm_874 : Cond.code yX9_puts cX9_puts 2 none ∈ gBIG := gm (List.mem_of_getElem? (i := 928) (by decide +kernel)) (by decide +kernel)
theorem wm_875 : Cond.methodLink RX9 127 yX9_unwinds ∈ gBIG := gm (List.mem_of_getElem? (i := 929) (by decide +kernel)) (by decide +kernel)
theorem wm_877 : Cond.instanceMethod yX9_unwinds ∈ gBIG := gm (List.mem_of_getElem? (i := 931) (by decide +kernel)) (by decide +kernel)
theorem wm_878 : Cond.code yX9_unwinds cX9_unwinds 3 none ∈ gBIG := gm (List.mem_of_getElem? (i := 932) (by decide +kernel)) (by decide +kernel)
theorem wm_879 : Cond.methodLink RX9 113 yX9_rank ∈ gBIG := gm (List.mem_of_getElem? (i := 933) (by decide +kernel)) (by decide +kernel)
theorem wm_880 : Cond.static yX9_rank ∈ gBIG := gm (List.mem_of_getElem? (i := 934) (by decide +kernel)) (by decide +kernel)
theorem wm_881 : Cond.code yX9_rank cX9_rank 1 (some .int) ∈ gBIG := gm (List.mem_of_getElem? (i := 935) (by decide +kernel)) (by decide +kernel)
/-! reading a text: what is put out and what is held -/
def hbc (c : Int) : Int := if c = 0 ∨ c = 13 ∨ c = 19 then 0 else 1
theorem hbc_c (c : Int) : (hbc c = 0 ∧ (c = 0 ∨ c = 13 ∨ c = 19)) ∨ (hbc c = 1 ∧ c ≠ 0 ∧ c ≠ 13 ∧ c ≠ 19) := by
  unfold hbc
  by_cases h : c = 0 ∨ c = 13 ∨ c = 19
  · rw [if_pos h]; exact Or.inl ⟨rfl, h⟩
  · rw [if_neg h]; exact Or.inr ⟨rfl, by omega, by omega, by omega⟩
def hbs (f : Int → Int) : Nat → Int
  | 0 => 0
  | n + 1 => hbs f n + hbc (f (n : Int))
theorem hbs_nn (f : Int → Int) : ∀ n : Nat, 0 ≤ hbs f n
  | 0 => Int.le_refl 0
  | n + 1 => by
    have h := hbs_nn f n
    have h2 := hbc_c (f (n : Int))
    have e : hbs f (n + 1) = hbs f n + hbc (f (n : Int)) := rfl
    omega
theorem hbs_cg {f g : Int → Int} : ∀ n : Nat, (∀ i : Int, 0 ≤ i → i < (n : Int) → f i = g i) → hbs f n = hbs g n
  | 0, _ => rfl
  | n + 1, h => by
    have h1 := hbs_cg n (fun i h2 h3 => h i h2 (by omega))
    have e : hbs f (n + 1) = hbs f n + hbc (f (n : Int)) := rfl
    have e2 : hbs g (n + 1) = hbs g n + hbc (g (n : Int)) := rfl
    rw [e, e2, h1, h (n : Int) (by omega) (by omega)]
theorem dep_cg {f g : Int → Int} (b : Int) : ∀ n : Nat, (∀ i : Int, b ≤ i → i < b + (n : Int) → f i = g i) → dep f b n = dep g b n
  | 0, _ => rfl
  | n + 1, h => by
    have h1 := dep_cg b n (fun i h2 h3 => h i h2 (by omega))
    have e : dep f b (n + 1) = dep f b n + cdep (f (b + n)) := rfl
    have e2 : dep g b (n + 1) = dep g b n + cdep (g (b + n)) := rfl
    rw [e, e2, h1, h (b + (n : Int)) (by omega) (by omega)]
def HOK (f : Int → Int) (h : Int) : Prop := ∀ i, 0 ≤ i → i < h → f i = 0 ∨ (11 ≤ f i ∧ f i ≤ 19)
def RDY (f5 f21 : Int → Int) (B st o h k : Int) : Prop := HOK f21 h ∧ 0 ≤ st ∧ st ≤ o ∧ 0 ≤ h ∧ (∀ j, 0 ≤ j → j < o - st → okc (f5 (B + st + j)) ∧ 1 ≤ dep f5 (B + st) (j + 1).toNat) ∧ dep f5 (B + st) (o - st).toNat = hbs f21 h.toNat + k
def TRN (f5 f21 : Int → Int) (B o h k : Int) (g5 g21 : Int → Int) (o2 h2 k2 : Int) : Prop := (∀ st, RDY f5 f21 B st o h k → RDY g5 g21 B st o2 h2 k2) ∧ ∀ i, i < B + o → g5 i = f5 i
theorem TRN_0 (f5 f21 : Int → Int) (B o h k : Int) : TRN f5 f21 B o h k f5 f21 o h k := ⟨fun _ q => q, fun _ _ => rfl⟩
theorem TRN_e {f5 f21 g5 g21 k5 k21 : Int → Int} {B o h k o2 h2 k2 o3 h3 k3 : Int} (t : TRN f5 f21 B o h k g5 g21 o2 h2 k2) (e5 : k5 = g5) (e21 : k21 = g21) (eo : o3 = o2) (eh : h3 = h2) (ek : k3 = k2) : TRN f5 f21 B o h k k5 k21 o3 h3 k3 := by
  subst e5; subst e21; subst eo; subst eh; subst ek
  exact t
theorem TRN_t {f5 f21 g5 g21 k5 k21 : Int → Int} {B o h k o2 h2 k2 o3 h3 k3 : Int} (a : TRN f5 f21 B o h k g5 g21 o2 h2 k2) (b : TRN g5 g21 B o2 h2 k2 k5 k21 o3 h3 k3) (ho : o ≤ o2) : TRN f5 f21 B o h k k5 k21 o3 h3 k3 :=
  ⟨fun st q => b.1 st (a.1 st q), fun i hi => (b.2 i (by omega)).trans (a.2 i hi)⟩
/-- one code more put out -/
theorem RDY_out {f5 f21 g5 : Int → Int} {B st o h k c q h2 k2 : Int} (r : RDY f5 f21 B st o h k) (hg : ∀ i, g5 i = if i = q then c else f5 i) (hq : q = B + o) (hc : okc c) (hh : 0 ≤ h2 ∧ h2 ≤ h) (hk : hbs f21 h2.toNat + k2 = hbs f21 h.toNat + k + cdep c) (h1 : 1 ≤ k2) : RDY g5 f21 B st (o + 1) h2 k2 := by
  obtain ⟨a1, a2, a3, a4, a5, a6⟩ := r
  have hcg : ∀ n : Nat, (n : Int) ≤ o - st → dep g5 (B + st) n = dep f5 (B + st) n := fun n hn => dep_cg _ n (fun i i1 i2 => by rw [hg, if_neg (by omega)])
  have hd : dep g5 (B + st) (o - st + 1).toNat = hbs f21 h2.toNat + k2 := by
    rw [dep_s g5 (B + st) (j := o - st) (by omega), hcg _ (by omega), a6, hg, if_pos (by omega)]
    omega
  refine ⟨fun i i1 i2 => a1 i i1 (by omega), a2, by omega, hh.1, fun j j1 j2 => ?_, ?_⟩
  · by_cases e : j = o - st
    · rw [e]
      refine ⟨?_, ?_⟩
      · rw [hg, if_pos (by omega)]; exact hc
      · rw [hd]; have := hbs_nn f21 h2.toNat; omega
    · refine ⟨?_, ?_⟩
      · rw [hg, if_neg (by omega)]; exact (a5 j j1 (by omega)).1
      · rw [hcg _ (by omega)]; exact (a5 j j1 (by omega)).2
  · have e : o + 1 - st = o - st + 1 := by omega
    rw [e]; exact hd
theorem hbs_top {f : Int → Int} {h : Int} (h1 : 1 ≤ h) : hbs f h.toNat = hbs f (h - 1).toNat + hbc (f (h - 1)) := by
  have e : h.toNat = (h - 1).toNat + 1 := by omega
  rw [e]
  have e2 : (((h - 1).toNat : Nat) : Int) = h - 1 := by omega
  have e3 : hbs f ((h - 1).toNat + 1) = hbs f (h - 1).toNat + hbc (f (((h - 1).toNat : Nat) : Int)) := rfl
  rw [e3, e2]
theorem TRN_pop {f5 f21 g5 : Int → Int} {B o h q c : Int} (hg : ∀ i, g5 i = if i = q then c else f5 i) (hq : q = B + o) (h1 : 1 ≤ h) (hc : c = f21 (h - 1)) (h0 : c ≠ 0) : TRN f5 f21 B o h 1 g5 f21 (o + 1) (h - 1) 1 := by
  refine ⟨fun st r => ?_, fun i hi => by rw [hg, if_neg (by omega)]⟩
  have hk := r.1 (h - 1) (by omega) (by omega)
  rw [← hc] at hk
  have h2 := hbc_c c
  have h3 := cdep_c c
  have h4 := hbs_top (f := f21) h1
  rw [← hc] at h4
  exact RDY_out r hg hq (Or.inr (Or.inl (by omega))) ⟨by omega, by omega⟩ (by omega) (by omega)
theorem TRN_num {f5 f21 g5 : Int → Int} {B o h q c : Int} (hh : 0 ≤ h) (hg : ∀ i, g5 i = if i = q then c else f5 i) (hq : q = B + o) (hc : (0 ≤ c ∧ c ≤ 5) ∨ (100000 ≤ c ∧ c ≤ 109999)) : TRN f5 f21 B o h 0 g5 f21 (o + 1) h 1 := by
  refine ⟨fun st r => ?_, fun i hi => by rw [hg, if_neg (by omega)]⟩
  have h3 := cdep_c c
  exact RDY_out r hg hq (by unfold okc; omega) ⟨hh, by omega⟩ (by omega) (by omega)
theorem RDY_hold {f5 f21 g21 : Int → Int} {B st o h k c q k2 : Int} (r : RDY f5 f21 B st o h k) (hg : ∀ i, g21 i = if i = q then c else f21 i) (hq : q = h) (hc : c = 0 ∨ (11 ≤ c ∧ c ≤ 19)) (hk : k = hbc c + k2) : RDY f5 g21 B st o (h + 1) k2 := by
  obtain ⟨a1, a2, a3, a4, a5, a6⟩ := r
  subst hq
  refine ⟨fun i i1 i2 => ?_, a2, a3, by omega, a5, ?_⟩
  · rw [hg]
    by_cases e : i = q
    · rw [if_pos e]; exact hc
    · rw [if_neg e]; exact a1 i i1 (by omega)
  · have h4 := hbs_top (f := g21) (h := q + 1) (by omega)
    have e : q + 1 - 1 = q := by omega
    rw [e, hg, if_pos rfl] at h4
    have h5 := hbs_cg (f := g21) (g := f21) q.toNat (fun i i1 i2 => by rw [hg, if_neg (by omega)])
    omega
theorem TRN_bin {f5 f21 g21 : Int → Int} {B o h q c : Int} (hg : ∀ i, g21 i = if i = q then c else f21 i) (hq : q = h) (hc : 11 ≤ c ∧ c ≤ 18 ∧ c ≠ 13) : TRN f5 f21 B o h 1 f5 g21 o (h + 1) 0 :=
  ⟨fun _ r => RDY_hold r hg hq (by omega) (by have := hbc_c c; omega), fun _ _ => rfl⟩
theorem TRN_open {f5 f21 g21 : Int → Int} {B o h q c : Int} (hg : ∀ i, g21 i = if i = q then c else f21 i) (hq : q = h) (hc : c = 0 ∨ c = 13 ∨ c = 19) : TRN f5 f21 B o h 0 f5 g21 o (h + 1) 0 :=
  ⟨fun _ r => RDY_hold r hg hq (by omega) (by have := hbc_c c; omega), fun _ _ => rfl⟩
theorem TRN_close {f5 f21 : Int → Int} {B o h : Int} (h1 : 1 ≤ h) (h0 : f21 (h - 1) = 0) : TRN f5 f21 B o h 1 f5 f21 o (h - 1) 1 :=
  ⟨fun _ r => ⟨fun i i1 i2 => r.1 i i1 (by omega), r.2.1, r.2.2.1, by omega, r.2.2.2.2.1, by
    have h4 := hbs_top (f := f21) h1
    have h2 := hbc_c (f21 (h - 1))
    have h5 := r.2.2.2.2.2
    omega⟩, fun _ _ => rfl⟩
theorem UNW_s {f5 f21 g5 m5 k5 : Int → Int} {B o h o2 h2 q c i o3 h3 : Int} (t : TRN f5 f21 B o h 1 g5 f21 o2 h2 1) (hg : ∀ i, k5 i = if i = q then c else m5 i) (em : m5 = g5) (hc : c = f21 i) (h0 : f21 (h2 - 1) ≠ 0) (hi : i = h2 - 1) (hq : q = B + o2) (h1 : 1 ≤ h2) (ho : o ≤ o2) (e1 : o3 = o2 + 1) (e2 : h3 = h2 - 1) : TRN f5 f21 B o h 1 k5 f21 o3 h3 1 := by
  subst hi; subst e1; subst e2; subst em
  exact TRN_t t (TRN_pop hg hq h1 hc (by rw [hc]; exact h0)) ho

def w_X9_unwinds_0 (c1 : Int) : Nat → gMem → gMem
  | 0, s1 => s1
  | n2 + 1, s1 => (if 0 < (s1 22 0) then (if (f_X9_rank (s1 21 ((s1 22 0) - 1))) < c1 then s1 else gl (mset s1 22 0 ((s1 22 0) - 1)) (fun s11 => (gj (fun j20c => (if (s11 21 (s11 22 0)) = 13 then j20c else (if (s11 21 (s11 22 0)) = 19 then j20c else gl (mset s11 23 0 ((s11 23 0) - 0)) (fun s37 => gb (f_X9_puts (s11 21 (s11 22 0)) s37) (fun r43 s44 => (w_X9_unwinds_0 c1 n2 s44)))))) (gl (mset s11 23 0 ((s11 23 0) - 1)) (fun s21 => gb (f_X9_puts (s11 21 (s11 22 0)) s21) (fun r27 s28 => (w_X9_unwinds_0 c1 n2 s28))))))) else s1)
theorem w_X9_unwinds_0_s (c1 : Int) (n2 : Nat)  (s1 : gMem) : w_X9_unwinds_0 c1 (n2 + 1) s1 = (if 0 < (s1 22 0) then (if (f_X9_rank (s1 21 ((s1 22 0) - 1))) < c1 then s1 else gl (mset s1 22 0 ((s1 22 0) - 1)) (fun s11 => (gj (fun j20c => (if (s11 21 (s11 22 0)) = 13 then j20c else (if (s11 21 (s11 22 0)) = 19 then j20c else gl (mset s11 23 0 ((s11 23 0) - 0)) (fun s37 => gb (f_X9_puts (s11 21 (s11 22 0)) s37) (fun r43 s44 => (w_X9_unwinds_0 c1 n2 s44)))))) (gl (mset s11 23 0 ((s11 23 0) - 1)) (fun s21 => gb (f_X9_puts (s11 21 (s11 22 0)) s21) (fun r27 s28 => (w_X9_unwinds_0 c1 n2 s28))))))) else s1) := rfl
def f_X9_unwinds (x0 : Int) (s0 : gMem) : gRes := (gl (w_X9_unwinds_0 x0 201 s0) (fun  s115 => (0, s115)))
theorem f_X9_unwinds_e (x0 : Int) (s0 : gMem) : f_X9_unwinds x0 s0 = (gl (w_X9_unwinds_0 x0 201 s0) (fun  s115 => (0, s115))) := rfl
set_option maxRecDepth 100000 in
set_option maxHeartbeats 4000000 in
theorem f_X9_unwinds_p (x0 : Int) (s0 : gMem) (hx0 : in32 x0) (hm_s0 : gMR lgM s0) (hpre0 : 0 ≤ s0 22 0 ∧ 0 ≤ s0 24 0 ∧ s0 24 0 + s0 22 0 ≤ 160) (hpre1 : 0 ≤ s0 7 0 ∧ s0 7 0 ≤ 5) (hpre2 : -1000 ≤ s0 23 0 ∧ s0 23 0 ≤ 5) (hpre3 : 1 ≤ x0) (rZ : Int) (sZ : gMem) (hres : f_X9_unwinds x0 s0 = (rZ, sZ)) : (fr [5, 22, 23, 24] s0 sZ) ∧ (gMR lgM sZ) ∧ (True) ∧ (0 ≤ sZ 22 0 ∧ sZ 22 0 ≤ s0 22 0) ∧ (sZ 24 0 + sZ 22 0 = s0 24 0 + s0 22 0) ∧ (s0 23 0 - (s0 22 0 - sZ 22 0) ≤ sZ 23 0 ∧ sZ 23 0 ≤ s0 23 0) ∧ (TRN (s0 5) (s0 21) (200 * s0 7 0) (s0 24 0) (s0 22 0) 1 (sZ 5) (s0 21) (sZ 24 0) (sZ 22 0) 1) ∧ (sZ 22 0 = 0 ∨ (x0 = 1 → sZ 21 (sZ 22 0 - 1) = 0)) := by
  have hT := f_X9_unwinds_e x0 s0
  have hf_s0 : fr [5, 22, 23, 24] s0 s0 := fr.rf _ _
  have L53 : ∀ (n54 : Nat)  (s52 : gMem), ((fr [5, 22, 23, 24] s0 s52) ∧ (gMR lgM s52) ∧ (s52 7 0 = s0 7 0) ∧ (0 ≤ s52 22 0 ∧ s52 22 0 ≤ s0 22 0) ∧ (s52 24 0 + s52 22 0 = s0 24 0 + s0 22 0) ∧ (s0 23 0 - (s0 22 0 - s52 22 0) ≤ s52 23 0 ∧ s52 23 0 ≤ s0 23 0) ∧ (TRN (s0 5) (s0 21) (200 * s0 7 0) (s0 24 0) (s0 22 0) 1 (s52 5) (s0 21) (s52 24 0) (s52 22 0) 1)) → s52 22 0 < (n54 : Int) → (∀  (s55 : gMem), (w_X9_unwinds_0 x0 n54 s52) = s55 → ((fr [5, 22, 23, 24] s0 s55) ∧ (gMR lgM s55) ∧ (s55 7 0 = s0 7 0) ∧ (0 ≤ s55 22 0 ∧ s55 22 0 ≤ s0 22 0) ∧ (s55 24 0 + s55 22 0 = s0 24 0 + s0 22 0) ∧ (s0 23 0 - (s0 22 0 - s55 22 0) ≤ s55 23 0 ∧ s55 23 0 ≤ s0 23 0) ∧ (TRN (s0 5) (s0 21) (200 * s0 7 0) (s0 24 0) (s0 22 0) 1 (s55 5) (s0 21) (s55 24 0) (s55 22 0) 1) ∧ (s55 22 0 = 0 ∨ (x0 = 1 → s55 21 (s55 22 0 - 1) = 0))) → (fr [5, 22, 23, 24] s0 sZ) ∧ (gMR lgM sZ) ∧ (True) ∧ (0 ≤ sZ 22 0 ∧ sZ 22 0 ≤ s0 22 0) ∧ (sZ 24 0 + sZ 22 0 = s0 24 0 + s0 22 0) ∧ (s0 23 0 - (s0 22 0 - sZ 22 0) ≤ sZ 23 0 ∧ sZ 23 0 ≤ s0 23 0) ∧ (TRN (s0 5) (s0 21) (200 * s0 7 0) (s0 24 0) (s0 22 0) 1 (sZ 5) (s0 21) (sZ 24 0) (sZ 22 0) 1) ∧ (sZ 22 0 = 0 ∨ (x0 = 1 → sZ 21 (sZ 22 0 - 1) = 0))) → (fr [5, 22, 23, 24] s0 sZ) ∧ (gMR lgM sZ) ∧ (True) ∧ (0 ≤ sZ 22 0 ∧ sZ 22 0 ≤ s0 22 0) ∧ (sZ 24 0 + sZ 22 0 = s0 24 0 + s0 22 0) ∧ (s0 23 0 - (s0 22 0 - sZ 22 0) ≤ sZ 23 0 ∧ sZ 23 0 ≤ s0 23 0) ∧ (TRN (s0 5) (s0 21) (200 * s0 7 0) (s0 24 0) (s0 22 0) 1 (sZ 5) (s0 21) (sZ 24 0) (sZ 22 0) 1) ∧ (sZ 22 0 = 0 ∨ (x0 = 1 → sZ 21 (sZ 22 0 - 1) = 0)) := by
    intro n54; induction n54 with
    | zero =>
      intro  s52 hq hm hk
      exfalso
      obtain ⟨hf_s52, hm_s52, hq105, hq106, hq107, hq108, hq109⟩ := hq
      omega
    | succ n54 ih =>
      intro  s52 hq hm hk
      obtain ⟨hf_s52, hm_s52, hq110, hq111, hq112, hq113, hq114⟩ := hq
      have hT := w_X9_unwinds_0_s x0 n54  s52
      have hr56 := (hm_s52 22 0).1 rfl
      by_cases h57 : 0 < (s52 22 0)
      · replace hT := hT.trans (if_pos h57)
        have hr58 := (hm_s52 22 0).1 rfl
        have hr59 := (hm_s52 21 ((s52 22 0) - 1)).1 rfl
        have hp61 := f_X9_rank_p (s52 21 ((s52 22 0) - 1)) (by omega) 
        by_cases h62 : (f_X9_rank (s52 21 ((s52 22 0) - 1))) < x0
        · replace hT := hT.trans (if_pos h62)
          exact hk  s52 hT ⟨hf_s52, hm_s52, (by first | assumption | omega), (by first | assumption | omega), (by first | assumption | omega), (by first | assumption | omega), (by first | assumption | exact TRN_0 _ _ _ _ _ _ | exact UNW_s (by assumption) (by assumption) (by assumption) (by assumption) (by assumption) (by omega) (by omega) (by omega) (by omega) (by omega) (by omega)), (by first | assumption | omega)⟩
        · replace hT := hT.trans (if_neg h62)
          have kc0 : s0 21 (s52 22 0 - 1) ≠ 0 := by rw [← hf_s52 21 (by decide)]; omega
          have hr63 := (hm_s52 22 0).1 rfl
          obtain ⟨s64, hs64, hT⟩ := glx hT
          have hf_s64 : fr [5, 22, 23, 24] s0 s64 := hs64 ▸ hf_s52.set (by decide)
          have hm_s64 : gMR lgM s64 := hs64 ▸ hm_s52.set32 rfl (by omega)
          have ht65 : s64 7 0 = s52 7 0 := by rw [hs64]; exact mset_ne _ _ _ _ _ (by decide)
          have ht66 : s64 22 0 = ((s52 22 0) - 1) := by rw [hs64]; exact mset_eq _ _ _ _
          have ht67 : s64 23 0 = s52 23 0 := by rw [hs64]; exact mset_ne _ _ _ _ _ (by decide)
          have ht68 : s64 24 0 = s52 24 0 := by rw [hs64]; exact mset_ne _ _ _ _ _ (by decide)
          have htf5_s64 : s64 5 = s52 5 := (by rw [hs64]; exact mset_nf (by decide))
          have hr69 := (hm_s64 22 0).1 rfl
          have hr70 := (hm_s64 21 (s64 22 0)).1 rfl
          have kc : (s64 21 (s64 22 0)) = s0 21 (s64 22 0) := by rw [hf_s64 21 (by decide)]
          have hr71 := (hm_s64 23 0).1 rfl
          obtain ⟨j73c, hj73c, hT⟩ := gjx hT
          have j73 : (True) → (w_X9_unwinds_0 x0 (n54 + 1) s52) = j73c  → (fr [5, 22, 23, 24] s0 sZ) ∧ (gMR lgM sZ) ∧ (True) ∧ (0 ≤ sZ 22 0 ∧ sZ 22 0 ≤ s0 22 0) ∧ (sZ 24 0 + sZ 22 0 = s0 24 0 + s0 22 0) ∧ (s0 23 0 - (s0 22 0 - sZ 22 0) ≤ sZ 23 0 ∧ sZ 23 0 ≤ s0 23 0) ∧ (TRN (s0 5) (s0 21) (200 * s0 7 0) (s0 24 0) (s0 22 0) 1 (sZ 5) (s0 21) (sZ 24 0) (sZ 22 0) 1) ∧ (sZ 22 0 = 0 ∨ (x0 = 1 → sZ 21 (sZ 22 0 - 1) = 0)) := by
            intro  hq hT
            rw [hj73c] at hT
            obtain ⟨s74, hs74, hT⟩ := glx hT
            have hf_s74 : fr [5, 22, 23, 24] s0 s74 := hs74 ▸ hf_s64.set (by decide)
            have hm_s74 : gMR lgM s74 := hs74 ▸ hm_s64.set32 rfl (by omega)
            have ht75 : s74 7 0 = s64 7 0 := by rw [hs74]; exact mset_ne _ _ _ _ _ (by decide)
            have ht76 : s74 22 0 = s64 22 0 := by rw [hs74]; exact mset_ne _ _ _ _ _ (by decide)
            have ht77 : s74 23 0 = ((s64 23 0) - 1) := by rw [hs74]; exact mset_eq _ _ _ _
            have ht78 : s74 24 0 = s64 24 0 := by rw [hs74]; exact mset_ne _ _ _ _ _ (by decide)
            have htf5_s74 : s74 5 = s52 5 := ((by rw [hs74]; exact mset_nf (by decide)) : s74 5 = s64 5).trans htf5_s64
            obtain ⟨r80, s81, hs81⟩ : ∃ rr ss, (f_X9_puts (s64 21 (s64 22 0)) s74) = (rr, ss) := ⟨_, _, rfl⟩
            replace hT := gby hT hs81
            have hp82 := f_X9_puts_p (s64 21 (s64 22 0)) s74 (by omega) hm_s74 (by first | assumption | omega) (by first | assumption | omega) r80 s81 hs81
            obtain ⟨hfc_s81, hm_s81, hp83, hp84, hp85⟩ := hp82
            have hf_s81 : fr [5, 22, 23, 24] s0 s81 := hf_s74.call (by decide) hfc_s81
            have ht86 : s81 7 0 = s74 7 0 := by rw [hfc_s81 7 (by decide)]
            have ht87 : s81 22 0 = s74 22 0 := by rw [hfc_s81 22 (by decide)]
            have ht88 : s81 23 0 = s74 23 0 := by rw [hfc_s81 23 (by decide)]
            exact ih  s81 ⟨hf_s81, hm_s81, (by first | assumption | omega), (by first | assumption | omega), (by first | assumption | omega), (by first | assumption | omega), (by first | assumption | exact TRN_0 _ _ _ _ _ _ | exact UNW_s (by assumption) (by assumption) (by assumption) (by assumption) (by assumption) (by omega) (by omega) (by omega) (by omega) (by omega) (by omega))⟩ (by omega) (fun  s55 hw hi => hk  s55 (hT.trans hw) hi)
          by_cases h72 : (s64 21 (s64 22 0)) = 13
          · replace hT := hT.trans (if_pos h72)
            exact j73  trivial hT
          · replace hT := hT.trans (if_neg h72)
            by_cases h89 : (s64 21 (s64 22 0)) = 19
            · replace hT := hT.trans (if_pos h89)
              exact j73  trivial hT
            · replace hT := hT.trans (if_neg h89)
              obtain ⟨s90, hs90, hT⟩ := glx hT
              have hf_s90 : fr [5, 22, 23, 24] s0 s90 := hs90 ▸ hf_s64.set (by decide)
              have hm_s90 : gMR lgM s90 := hs90 ▸ hm_s64.set32 rfl (by omega)
              have ht91 : s90 7 0 = s64 7 0 := by rw [hs90]; exact mset_ne _ _ _ _ _ (by decide)
              have ht92 : s90 22 0 = s64 22 0 := by rw [hs90]; exact mset_ne _ _ _ _ _ (by decide)
              have ht93 : s90 23 0 = ((s64 23 0) - 0) := by rw [hs90]; exact mset_eq _ _ _ _
              have ht94 : s90 24 0 = s64 24 0 := by rw [hs90]; exact mset_ne _ _ _ _ _ (by decide)
              have htf5_s90 : s90 5 = s52 5 := ((by rw [hs90]; exact mset_nf (by decide)) : s90 5 = s64 5).trans htf5_s64
              obtain ⟨r96, s97, hs97⟩ : ∃ rr ss, (f_X9_puts (s64 21 (s64 22 0)) s90) = (rr, ss) := ⟨_, _, rfl⟩
              replace hT := gby hT hs97
              have hp98 := f_X9_puts_p (s64 21 (s64 22 0)) s90 (by omega) hm_s90 (by first | assumption | omega) (by first | assumption | omega) r96 s97 hs97
              obtain ⟨hfc_s97, hm_s97, hp99, hp100, hp101⟩ := hp98
              have hf_s97 : fr [5, 22, 23, 24] s0 s97 := hf_s90.call (by decide) hfc_s97
              have ht102 : s97 7 0 = s90 7 0 := by rw [hfc_s97 7 (by decide)]
              have ht103 : s97 22 0 = s90 22 0 := by rw [hfc_s97 22 (by decide)]
              have ht104 : s97 23 0 = s90 23 0 := by rw [hfc_s97 23 (by decide)]
              exact ih  s97 ⟨hf_s97, hm_s97, (by first | assumption | omega), (by first | assumption | omega), (by first | assumption | omega), (by first | assumption | omega), (by first | assumption | exact TRN_0 _ _ _ _ _ _ | exact UNW_s (by assumption) (by assumption) (by assumption) (by assumption) (by assumption) (by omega) (by omega) (by omega) (by omega) (by omega) (by omega))⟩ (by omega) (fun  s55 hw hi => hk  s55 (hT.trans hw) hi)
      · replace hT := hT.trans (if_neg h57)
        exact hk  s52 hT ⟨hf_s52, hm_s52, (by first | assumption | omega), (by first | assumption | omega), (by first | assumption | omega), (by first | assumption | omega), (by first | assumption | exact TRN_0 _ _ _ _ _ _ | exact UNW_s (by assumption) (by assumption) (by assumption) (by assumption) (by assumption) (by omega) (by omega) (by omega) (by omega) (by omega) (by omega)), (by first | assumption | omega)⟩
  refine L53 201  s0 ⟨hf_s0, hm_s0, (by first | assumption | omega), (by first | assumption | omega), (by first | assumption | omega), (by first | assumption | omega), (by first | assumption | exact TRN_0 _ _ _ _ _ _ | exact UNW_s (by assumption) (by assumption) (by assumption) (by assumption) (by assumption) (by omega) (by omega) (by omega) (by omega) (by omega) (by omega))⟩ (by omega) (fun  s115 hw hq => ?_)
  obtain ⟨hf_s115, hm_s115, hq116, hq117, hq118, hq119, hq120, hq121⟩ := hq
  replace hT := gl1y hT hw
  obtain ⟨rfl, rfl⟩ := Prod.mk.inj (hT.symm.trans hres)
  exact ⟨hf_s115, hm_s115, trivial, (by first | assumption | omega), (by first | assumption | omega), (by first | assumption | omega), (by first | assumption | exact TRN_0 _ _ _ _ _ _ | exact UNW_s (by assumption) (by assumption) (by assumption) (by assumption) (by assumption) (by omega) (by omega) (by omega) (by omega) (by omega) (by omega)), (by first | assumption | omega)⟩
set_option maxRecDepth 100000 in
set_option maxHeartbeats 4000000 in
theorem c_X9_unwinds (l : Launch) (D : va_G) (a : Nat → Nat) (cI cJ cS cT : ClassId) (s0 : gMem) (x0 : Int) (hx0 : in32 x0) (hpre0 : 0 ≤ s0 22 0 ∧ 0 ≤ s0 24 0 ∧ s0 24 0 + s0 22 0 ≤ 160) (hpre1 : 0 ≤ s0 7 0 ∧ s0 7 0 ≤ 5) (hpre2 : -1000 ≤ s0 23 0 ∧ s0 23 0 ≤ 5) (hpre3 : 1 ≤ x0) : gC l yX9_unwinds cX9_unwinds 3 none 2 128 D vwCl (gT cI cJ cS cT) (wdM a cI cJ) lgM kV rgV [.ref (a 0), gI x0] s0 (f_X9_unwinds x0 s0) := by
  refine gC_of (by decide +kernel) (hwdM a cI cJ) (Nat.le_of_ble_eq_true rfl) ?_
  intro A p e R s m args below meth c hR E
  subst hR
  have hT := f_X9_unwinds_e x0 s0
  have hf_s0 : fr [5, 22, 23, 24] s0 s0 := fr.rf _ _
  refine k_lv0 (lv' := [(0, .ref (a 0)), (1, gI x0)]) rfl ?_
  refine k_mr (fun hm_s0 => ?_)
  have L53 : ∀ (n54 : Nat)  (s52 : gMem), ((fr [5, 22, 23, 24] s0 s52) ∧ (s52 7 0 = s0 7 0) ∧ (0 ≤ s52 22 0 ∧ s52 22 0 ≤ s0 22 0) ∧ (s52 24 0 + s52 22 0 = s0 24 0 + s0 22 0) ∧ (s0 23 0 - (s0 22 0 - s52 22 0) ≤ s52 23 0 ∧ s52 23 0 ≤ s0 23 0) ∧ (TRN (s0 5) (s0 21) (200 * s0 7 0) (s0 24 0) (s0 22 0) 1 (s52 5) (s0 21) (s52 24 0) (s52 22 0) 1)) → s52 22 0 < (n54 : Int) → (∀  (s55 : gMem), (w_X9_unwinds_0 x0 n54 s52) = s55 → ((fr [5, 22, 23, 24] s0 s55) ∧ (s55 7 0 = s0 7 0) ∧ (0 ≤ s55 22 0 ∧ s55 22 0 ≤ s0 22 0) ∧ (s55 24 0 + s55 22 0 = s0 24 0 + s0 22 0) ∧ (s0 23 0 - (s0 22 0 - s55 22 0) ≤ s55 23 0 ∧ s55 23 0 ≤ s0 23 0) ∧ (TRN (s0 5) (s0 21) (200 * s0 7 0) (s0 24 0) (s0 22 0) 1 (s55 5) (s0 21) (s55 24 0) (s55 22 0) 1) ∧ (s55 22 0 = 0 ∨ (x0 = 1 → s55 21 (s55 22 0 - 1) = 0))) → gK D vwCl (wdM a cI cJ) lgM A p l e { frames := 2, cells := 0, slots := 0, locals := 128 } s m args below meth c 3 (gQQ D vwCl (wdM a cI cJ) lgM A kV rgV below args s) (f_X9_unwinds x0 s0) s55 79 [] []) → gK D vwCl (wdM a cI cJ) lgM A p l e { frames := 2, cells := 0, slots := 0, locals := 128 } s m args below meth c 3 (gQQ D vwCl (wdM a cI cJ) lgM A kV rgV below args s) (f_X9_unwinds x0 s0) s52 0 [(0, .ref (a 0)), (1, gI x0)] [] := by
    intro n54; induction n54 with
    | zero =>
      intro  s52 hq hm hk
      exfalso
      obtain ⟨hf_s52, hq105, hq106, hq107, hq108, hq109⟩ := hq
      omega
    | succ n54 ih =>
      intro  s52 hq hm hk
      obtain ⟨hf_s52, hq110, hq111, hq112, hq113, hq114⟩ := hq
      have hT := w_X9_unwinds_0_s x0 n54  s52
      refine k_aloadn (pc := 0) E 0 dX9_unwinds_0 rfl rfl ?_
      refine k_getfI (pc := 1) (q0 := 0) (f := 22) (k := 22) E inX9 rfl rfl (by decide) wm_920 rfl rfl rfl dX9_unwinds_1 (fun hr56 => ?_)
      by_cases h57 : 0 < (s52 22 0)
      · replace hT := hT.trans (if_pos h57)
        refine k_if_le_f (pc := 4) (tgt := 79) E (by omega) dX9_unwinds_4 (by decide) h57 ?_
        refine k_aloadn (pc := 7) E 0 dX9_unwinds_7 rfl rfl ?_
        refine k_getf (pc := 8) (q0 := 0) (f := 21) (v := .ref (a 13)) E inX9 rfl rfl (by decide) wm_919 rfl rfl dX9_unwinds_8 ?_
        refine k_aloadn (pc := 11) E 0 dX9_unwinds_11 rfl rfl ?_
        refine k_getfI (pc := 12) (q0 := 0) (f := 22) (k := 22) E inX9 rfl rfl (by decide) wm_920 rfl rfl rfl dX9_unwinds_12 (fun hr58 => ?_)
        refine k_iconst (pc := 15) E dX9_unwinds_15 ?_
        refine k_isub (pc := 16) E dX9_unwinds_16 ?_
        refine k_iaload (pc := 17) (q0 := 13) (t0 := 0) (k := 21) (n := 200) E rfl rfl rfl (by decide) (by omega) (by omega) dX9_unwinds_17 (fun hr59 => ?_)
        refine k_mr (fun hm_s52 => ?_)
        refine k_callS (pc := 18) (np := 1) (As := [gI (s52 21 ((s52 22 0) - 1))]) (st := []) E (c_X9_rank l D a cI cJ cS cT s52 (s52 21 ((s52 22 0) - 1)) (by omega)) wm_881 wm_11 wm_879 wm_880 (by decide +kernel) ⟨by decide, by decide⟩ rfl (Nat.le_of_ble_eq_true rfl) dX9_unwinds_18 (ro_kk (fun hr60 => ?_))
        have hp61 := f_X9_rank_p (s52 21 ((s52 22 0) - 1)) (by omega) 
        refine k_st (st' := [gI (f_X9_rank (s52 21 ((s52 22 0) - 1)))]) rfl ?_
        refine k_iloadn (pc := 21) E 1 dX9_unwinds_21 rfl rfl ?_
        by_cases h62 : (f_X9_rank (s52 21 ((s52 22 0) - 1))) < x0
        · replace hT := hT.trans (if_pos h62)
          refine k_icmp_lt_t (pc := 22) (tgt := 79) E (by omega) (by omega) dX9_unwinds_22 (by decide) h62 ?_
          refine k_lv (lv' := []) [] rfl ?_
          exact hk  s52 hT ⟨hf_s52, (by first | assumption | omega), (by first | assumption | omega), (by first | assumption | omega), (by first | assumption | omega), (by first | assumption | exact TRN_0 _ _ _ _ _ _ | exact UNW_s (by assumption) (by assumption) (by assumption) (by assumption) (by assumption) (by omega) (by omega) (by omega) (by omega) (by omega) (by omega)), (by first | assumption | omega)⟩
        · replace hT := hT.trans (if_neg h62)
          refine k_icmp_lt_f (pc := 22) (tgt := 79) E (by omega) (by omega) dX9_unwinds_22 (by decide) h62 ?_
          have kc0 : s0 21 (s52 22 0 - 1) ≠ 0 := by rw [← hf_s52 21 (by decide)]; omega
          refine k_aloadn (pc := 25) E 0 dX9_unwinds_25 rfl rfl ?_
          refine k_dup (pc := 26) E dX9_unwinds_26 rfl ?_
          refine k_getfI (pc := 27) (q0 := 0) (f := 22) (k := 22) E inX9 rfl rfl (by decide) wm_920 rfl rfl rfl dX9_unwinds_27 (fun hr63 => ?_)
          refine k_iconst (pc := 30) E dX9_unwinds_30 ?_
          refine k_isub (pc := 31) E dX9_unwinds_31 ?_
          refine k_putfI (pc := 32) (q0 := 0) (f := 22) (k := 22) E tyX9 tyX9_ok nmX9 inX9 rfl rfl (by decide) wm_920 rfl rfl rfl (Nat.le_of_ble_eq_true rfl) rfl rfl (by omega) dX9_unwinds_32 ?_
          obtain ⟨s64, hs64, hT⟩ := glx hT
          refine k_sg hs64.symm ?_
          have hf_s64 : fr [5, 22, 23, 24] s0 s64 := hs64 ▸ hf_s52.set (by decide)
          have ht65 : s64 7 0 = s52 7 0 := by rw [hs64]; exact mset_ne _ _ _ _ _ (by decide)
          have ht66 : s64 22 0 = ((s52 22 0) - 1) := by rw [hs64]; exact mset_eq _ _ _ _
          have ht67 : s64 23 0 = s52 23 0 := by rw [hs64]; exact mset_ne _ _ _ _ _ (by decide)
          have ht68 : s64 24 0 = s52 24 0 := by rw [hs64]; exact mset_ne _ _ _ _ _ (by decide)
          have htf5_s64 : s64 5 = s52 5 := (by rw [hs64]; exact mset_nf (by decide))
          refine k_aloadn (pc := 35) E 0 dX9_unwinds_35 rfl rfl ?_
          refine k_getf (pc := 36) (q0 := 0) (f := 21) (v := .ref (a 13)) E inX9 rfl rfl (by decide) wm_919 rfl rfl dX9_unwinds_36 ?_
          refine k_aloadn (pc := 39) E 0 dX9_unwinds_39 rfl rfl ?_
          refine k_getfI (pc := 40) (q0 := 0) (f := 22) (k := 22) E inX9 rfl rfl (by decide) wm_920 rfl rfl rfl dX9_unwinds_40 (fun hr69 => ?_)
          refine k_iaload (pc := 43) (q0 := 13) (t0 := 0) (k := 21) (n := 200) E rfl rfl rfl (by decide) (by omega) (by omega) dX9_unwinds_43 (fun hr70 => ?_)
          have kc : (s64 21 (s64 22 0)) = s0 21 (s64 22 0) := by rw [hf_s64 21 (by decide)]
          refine k_istoren (pc := 44) (lv' := [(2, gI (s64 21 (s64 22 0))), (0, .ref (a 0)), (1, gI x0)]) E dX9_unwinds_44 rfl (by decide) rfl ?_
          refine k_aloadn (pc := 45) E 1 dX9_unwinds_45 rfl rfl ?_
          refine k_dup (pc := 46) E dX9_unwinds_46 rfl ?_
          refine k_getfI (pc := 47) (q0 := 0) (f := 23) (k := 23) E inX9 rfl rfl (by decide) wm_921 rfl rfl rfl dX9_unwinds_47 (fun hr71 => ?_)
          refine k_iloadn (pc := 50) E 0 dX9_unwinds_50 rfl rfl ?_
          refine k_bipush (pc := 51) E dX9_unwinds_51 (by decide) ?_
          obtain ⟨j73c, hj73c, hT⟩ := gjx hT
          have j73 : (True) → (w_X9_unwinds_0 x0 (n54 + 1) s52) = j73c  → gK D vwCl (wdM a cI cJ) lgM A p l e { frames := 2, cells := 0, slots := 0, locals := 128 } s m args below meth c 3 (gQQ D vwCl (wdM a cI cJ) lgM A kV rgV below args s) (f_X9_unwinds x0 s0) s64 62 [(0, .ref (a 0)), (1, gI x0), (2, gI (s64 21 (s64 22 0)))] [gI (s64 23 0), .ref (a 0)] := by
            intro  hq hT
            rw [hj73c] at hT
            refine k_iconst (pc := 62) E dX9_unwinds_62 ?_
            refine k_goto (pc := 63) (tgt := 67) E dX9_unwinds_63 (by decide) ?_
            refine k_isub (pc := 67) E dX9_unwinds_67 ?_
            refine k_putfI (pc := 68) (q0 := 0) (f := 23) (k := 23) E tyX9 tyX9_ok nmX9 inX9 rfl rfl (by decide) wm_921 rfl rfl rfl (Nat.le_of_ble_eq_true rfl) rfl rfl (by omega) dX9_unwinds_68 ?_
            obtain ⟨s74, hs74, hT⟩ := glx hT
            refine k_sg hs74.symm ?_
            have hf_s74 : fr [5, 22, 23, 24] s0 s74 := hs74 ▸ hf_s64.set (by decide)
            have ht75 : s74 7 0 = s64 7 0 := by rw [hs74]; exact mset_ne _ _ _ _ _ (by decide)
            have ht76 : s74 22 0 = s64 22 0 := by rw [hs74]; exact mset_ne _ _ _ _ _ (by decide)
            have ht77 : s74 23 0 = ((s64 23 0) - 1) := by rw [hs74]; exact mset_eq _ _ _ _
            have ht78 : s74 24 0 = s64 24 0 := by rw [hs74]; exact mset_ne _ _ _ _ _ (by decide)
            have htf5_s74 : s74 5 = s52 5 := ((by rw [hs74]; exact mset_nf (by decide)) : s74 5 = s64 5).trans htf5_s64
            refine k_aloadn (pc := 71) E 0 dX9_unwinds_71 rfl rfl ?_
            refine k_iloadn (pc := 72) E 2 dX9_unwinds_72 rfl rfl ?_
            refine k_mr (fun hm_s74 => ?_)
            refine k_callV (pc := 73) (np := 1) (As := [gI (s64 21 (s64 22 0))]) (st := []) (q0 := 0) E (c_X9_puts l D a cI cJ cS cT s74 (s64 21 (s64 22 0)) (by omega) (by first | assumption | omega) (by first | assumption | omega)) wm_874 wm_11 wm_871 wm_873 wp_28 (by decide +kernel) rfl rfl ⟨by decide, by decide⟩ rfl (Nat.le_of_ble_eq_true rfl) dX9_unwinds_73 (fun r80 s81 hs81 hr79 => ?_)
            replace hT := gby hT hs81
            have hp82 := f_X9_puts_p (s64 21 (s64 22 0)) s74 (by omega) hm_s74 (by first | assumption | omega) (by first | assumption | omega) r80 s81 hs81
            obtain ⟨hfc_s81, hm_s81, hp83, hp84, hp85⟩ := hp82
            have hf_s81 : fr [5, 22, 23, 24] s0 s81 := hf_s74.call (by decide) hfc_s81
            have ht86 : s81 7 0 = s74 7 0 := by rw [hfc_s81 7 (by decide)]
            have ht87 : s81 22 0 = s74 22 0 := by rw [hfc_s81 22 (by decide)]
            have ht88 : s81 23 0 = s74 23 0 := by rw [hfc_s81 23 (by decide)]
            refine k_st (st' := []) rfl ?_
            refine k_goto (pc := 76) (tgt := 0) E dX9_unwinds_76 (by decide) ?_
            refine k_lv (lv' := [(0, .ref (a 0)), (1, gI x0)]) [0, 1] rfl ?_
            exact ih  s81 ⟨hf_s81, (by first | assumption | omega), (by first | assumption | omega), (by first | assumption | omega), (by first | assumption | omega), (by first | assumption | exact TRN_0 _ _ _ _ _ _ | exact UNW_s (by assumption) (by assumption) (by assumption) (by assumption) (by assumption) (by omega) (by omega) (by omega) (by omega) (by omega) (by omega))⟩ (by omega) (fun  s55 hw hi => hk  s55 (hT.trans hw) hi)
          by_cases h72 : (s64 21 (s64 22 0)) = 13
          · replace hT := hT.trans (if_pos h72)
            refine k_icmp_eq_t (pc := 53) (tgt := 62) E (by omega) (by omega) dX9_unwinds_53 (by decide) h72 ?_
            refine k_lv (lv' := [(0, .ref (a 0)), (1, gI x0), (2, gI (s64 21 (s64 22 0)))]) [1, 2, 0] rfl ?_
            exact j73  trivial hT
          · replace hT := hT.trans (if_neg h72)
            refine k_icmp_eq_f (pc := 53) (tgt := 62) E (by omega) (by omega) dX9_unwinds_53 (by decide) h72 ?_
            refine k_iloadn (pc := 56) E 0 dX9_unwinds_56 rfl rfl ?_
            refine k_bipush (pc := 57) E dX9_unwinds_57 (by decide) ?_
            by_cases h89 : (s64 21 (s64 22 0)) = 19
            · replace hT := hT.trans (if_pos h89)
              refine k_icmp_ne_f (pc := 59) (tgt := 66) E (by omega) (by omega) dX9_unwinds_59 (by decide) h89 ?_
              refine k_lv (lv' := [(0, .ref (a 0)), (1, gI x0), (2, gI (s64 21 (s64 22 0)))]) [1, 2, 0] rfl ?_
              exact j73  trivial hT
            · replace hT := hT.trans (if_neg h89)
              refine k_icmp_ne_t (pc := 59) (tgt := 66) E (by omega) (by omega) dX9_unwinds_59 (by decide) h89 ?_
              refine k_iconst (pc := 66) E dX9_unwinds_66 ?_
              refine k_isub (pc := 67) E dX9_unwinds_67 ?_
              refine k_putfI (pc := 68) (q0 := 0) (f := 23) (k := 23) E tyX9 tyX9_ok nmX9 inX9 rfl rfl (by decide) wm_921 rfl rfl rfl (Nat.le_of_ble_eq_true rfl) rfl rfl (by omega) dX9_unwinds_68 ?_
              obtain ⟨s90, hs90, hT⟩ := glx hT
              refine k_sg hs90.symm ?_
              have hf_s90 : fr [5, 22, 23, 24] s0 s90 := hs90 ▸ hf_s64.set (by decide)
              have ht91 : s90 7 0 = s64 7 0 := by rw [hs90]; exact mset_ne _ _ _ _ _ (by decide)
              have ht92 : s90 22 0 = s64 22 0 := by rw [hs90]; exact mset_ne _ _ _ _ _ (by decide)
              have ht93 : s90 23 0 = ((s64 23 0) - 0) := by rw [hs90]; exact mset_eq _ _ _ _
              have ht94 : s90 24 0 = s64 24 0 := by rw [hs90]; exact mset_ne _ _ _ _ _ (by decide)
              have htf5_s90 : s90 5 = s52 5 := ((by rw [hs90]; exact mset_nf (by decide)) : s90 5 = s64 5).trans htf5_s64
              refine k_aloadn (pc := 71) E 1 dX9_unwinds_71 rfl rfl ?_
              refine k_iloadn (pc := 72) E 0 dX9_unwinds_72 rfl rfl ?_
              refine k_mr (fun hm_s90 => ?_)
              refine k_callV (pc := 73) (np := 1) (As := [gI (s64 21 (s64 22 0))]) (st := []) (q0 := 0) E (c_X9_puts l D a cI cJ cS cT s90 (s64 21 (s64 22 0)) (by omega) (by first | assumption | omega) (by first | assumption | omega)) wm_874 wm_11 wm_871 wm_873 wp_28 (by decide +kernel) rfl rfl ⟨by decide, by decide⟩ rfl (Nat.le_of_ble_eq_true rfl) dX9_unwinds_73 (fun r96 s97 hs97 hr95 => ?_)
              replace hT := gby hT hs97
              have hp98 := f_X9_puts_p (s64 21 (s64 22 0)) s90 (by omega) hm_s90 (by first | assumption | omega) (by first | assumption | omega) r96 s97 hs97
              obtain ⟨hfc_s97, hm_s97, hp99, hp100, hp101⟩ := hp98
              have hf_s97 : fr [5, 22, 23, 24] s0 s97 := hf_s90.call (by decide) hfc_s97
              have ht102 : s97 7 0 = s90 7 0 := by rw [hfc_s97 7 (by decide)]
              have ht103 : s97 22 0 = s90 22 0 := by rw [hfc_s97 22 (by decide)]
              have ht104 : s97 23 0 = s90 23 0 := by rw [hfc_s97 23 (by decide)]
              refine k_st (st' := []) rfl ?_
              refine k_goto (pc := 76) (tgt := 0) E dX9_unwinds_76 (by decide) ?_
              refine k_lv (lv' := [(0, .ref (a 0)), (1, gI x0)]) [1, 2] rfl ?_
              exact ih  s97 ⟨hf_s97, (by first | assumption | omega), (by first | assumption | omega), (by first | assumption | omega), (by first | assumption | omega), (by first | assumption | exact TRN_0 _ _ _ _ _ _ | exact UNW_s (by assumption) (by assumption) (by assumption) (by assumption) (by assumption) (by omega) (by omega) (by omega) (by omega) (by omega) (by omega))⟩ (by omega) (fun  s55 hw hi => hk  s55 (hT.trans hw) hi)
      · replace hT := hT.trans (if_neg h57)
        refine k_if_le_t (pc := 4) (tgt := 79) E (by omega) dX9_unwinds_4 (by decide) h57 ?_
        refine k_lv (lv' := []) [] rfl ?_
        exact hk  s52 hT ⟨hf_s52, (by first | assumption | omega), (by first | assumption | omega), (by first | assumption | omega), (by first | assumption | omega), (by first | assumption | exact TRN_0 _ _ _ _ _ _ | exact UNW_s (by assumption) (by assumption) (by assumption) (by assumption) (by assumption) (by omega) (by omega) (by omega) (by omega) (by omega) (by omega)), (by first | assumption | omega)⟩
  refine L53 201  s0 ⟨hf_s0, (by first | assumption | omega), (by first | assumption | omega), (by first | assumption | omega), (by first | assumption | omega), (by first | assumption | exact TRN_0 _ _ _ _ _ _ | exact UNW_s (by assumption) (by assumption) (by assumption) (by assumption) (by assumption) (by omega) (by omega) (by omega) (by omega) (by omega) (by omega))⟩ (by omega) (fun  s115 hw hq => ?_)
  obtain ⟨hf_s115, hq116, hq117, hq118, hq119, hq120, hq121⟩ := hq
  replace hT := gl1y hT hw
  exact k_rho hT (k_vret (pc := 79) E dX9_unwinds_79)

def LOW (f g : Int → Int) (b : Int) : Prop := ∀ i, i < b → g i = f i
theorem LOW_0 (f : Int → Int) (b : Int) : LOW f f b := fun _ _ => rfl
theorem LOW_e {f g k : Int → Int} {b : Int} (h : LOW f g b) (e : k = g) : LOW f k b := e ▸ h
theorem TRN_LOW {f5 f21 g5 g21 k5 : Int → Int} {B o h k o2 h2 k2 b : Int} (t : TRN f5 f21 B o h k g5 g21 o2 h2 k2) (e : k5 = g5) (eb : b = B + o) : LOW f5 k5 b := by
  subst e; subst eb
  exact t.2
theorem BTW1 {f5 f21 g5 k5 k21 m21 : Int → Int} {B o h o2 h2 q c o3 h3 : Int} (t : TRN f5 f21 B o h 1 g5 f21 o2 h2 1) (hg : ∀ i, k21 i = if i = q then c else m21 i) (em : m21 = f21) (e5 : k5 = g5) (hq : q = h2) (hc : 11 ≤ c ∧ c ≤ 18 ∧ c ≠ 13) (ho : o ≤ o2) (eo : o3 = o2) (eh : h3 = h2 + 1) : TRN f5 f21 B o h 1 k5 k21 o3 h3 0 := by
  subst em; subst e5; subst eo; subst eh
  exact TRN_t t (TRN_bin hg hq hc) ho

def f_X9_between (x0 : Int) (s0 : gMem) : gRes := (gl ((if (f_X9_rank x0) = 4 then 5 else (f_X9_rank x0))) (fun v5 => gb (f_X9_unwinds v5 s0) (fun r7 s8 => (gj (fun j20c => (if (f_X9_rank x0) = 4 then (if 0 < (s8 22 0) then (if (f_X9_rank (s8 21 ((s8 22 0) - 1))) = 4 then (0, s8) else j20c) else j20c) else j20c)) (gb (f_X9_holds x0 s8) (fun r22 s23 => (1, s23)))))))
theorem f_X9_between_e (x0 : Int) (s0 : gMem) : f_X9_between x0 s0 = (gl ((if (f_X9_rank x0) = 4 then 5 else (f_X9_rank x0))) (fun v5 => gb (f_X9_unwinds v5 s0) (fun r7 s8 => (gj (fun j20c => (if (f_X9_rank x0) = 4 then (if 0 < (s8 22 0) then (if (f_X9_rank (s8 21 ((s8 22 0) - 1))) = 4 then (0, s8) else j20c) else j20c) else j20c)) (gb (f_X9_holds x0 s8) (fun r22 s23 => (1, s23))))))) := rfl
set_option maxRecDepth 100000 in
set_option maxHeartbeats 4000000 in
theorem f_X9_between_p (x0 : Int) (s0 : gMem) (hx0 : in32 x0) (hm_s0 : gMR lgM s0) (hpre0 : 0 ≤ s0 22 0 ∧ 0 ≤ s0 24 0 ∧ s0 24 0 + s0 22 0 ≤ 160) (hpre1 : 0 ≤ s0 7 0 ∧ s0 7 0 ≤ 5) (hpre2 : -1000 ≤ s0 23 0 ∧ s0 23 0 ≤ 5) (hpre3 : 11 ≤ x0 ∧ x0 ≤ 18 ∧ x0 ≠ 13) (rZ : Int) (sZ : gMem) (hres : f_X9_between x0 s0 = (rZ, sZ)) : (fr [5, 21, 22, 23, 24] s0 sZ) ∧ (gMR lgM sZ) ∧ ((rZ = 0 ∨ rZ = 1)) ∧ (LOW (s0 5) (sZ 5) ((200 * s0 7 0) + s0 24 0)) ∧ (0 ≤ sZ 22 0 ∧ s0 24 0 ≤ sZ 24 0 ∧ sZ 24 0 + sZ 22 0 ≤ s0 24 0 + s0 22 0 + 1) ∧ (s0 23 0 - (s0 22 0 + 1 - sZ 22 0) ≤ sZ 23 0 ∧ sZ 23 0 ≤ s0 23 0) ∧ (rZ = 1 → TRN (s0 5) (s0 21) (200 * s0 7 0) (s0 24 0) (s0 22 0) 1 (sZ 5) (sZ 21) (sZ 24 0) (sZ 22 0) 0) := by
  have hT := f_X9_between_e x0 s0
  have hf_s0 : fr [5, 21, 22, 23, 24] s0 s0 := fr.rf _ _
  have hp2 := f_X9_rank_p x0 (by omega) 
  obtain ⟨z40, hz40, hT⟩ := gl1x hT
  have j4 : ∀ (v5 : Int), ((in32 v5) ∧ (1 ≤ v5 ∧ v5 ≤ 7)) → z40 = v5 → (fr [5, 21, 22, 23, 24] s0 sZ) ∧ (gMR lgM sZ) ∧ ((rZ = 0 ∨ rZ = 1)) ∧ (LOW (s0 5) (sZ 5) ((200 * s0 7 0) + s0 24 0)) ∧ (0 ≤ sZ 22 0 ∧ s0 24 0 ≤ sZ 24 0 ∧ sZ 24 0 + sZ 22 0 ≤ s0 24 0 + s0 22 0 + 1) ∧ (s0 23 0 - (s0 22 0 + 1 - sZ 22 0) ≤ sZ 23 0 ∧ sZ 23 0 ≤ s0 23 0) ∧ (rZ = 1 → TRN (s0 5) (s0 21) (200 * s0 7 0) (s0 24 0) (s0 22 0) 1 (sZ 5) (sZ 21) (sZ 24 0) (sZ 22 0) 0) := by
    intro v5 hq hz
    obtain ⟨hq38, hq39⟩ := hq
    replace hT := gl1y hT hz
    obtain ⟨r7, s8, hs8⟩ : ∃ rr ss, (f_X9_unwinds v5 s0) = (rr, ss) := ⟨_, _, rfl⟩
    replace hT := gby hT hs8
    have hp9 := f_X9_unwinds_p v5 s0 (by omega) hm_s0 (by first | assumption | omega) (by first | assumption | omega) (by first | assumption | omega) (by first | assumption | omega) r7 s8 hs8
    obtain ⟨hfc_s8, hm_s8, hp10, hp11, hp12, hp13, hp14, hp15⟩ := hp9
    have hf_s8 : fr [5, 21, 22, 23, 24] s0 s8 := hf_s0.call (by decide) hfc_s8
    have htf21_s8 : s8 21 = s0 21 := hfc_s8 21 (by decide)
    have ht16 : s8 7 0 = s0 7 0 := by rw [hfc_s8 7 (by decide)]
    have hp18 := f_X9_rank_p x0 (by omega) 
    obtain ⟨j20c, hj20c, hT⟩ := gjx hT
    have j20 : (True) → (f_X9_between x0 s0) = j20c  → (fr [5, 21, 22, 23, 24] s0 sZ) ∧ (gMR lgM sZ) ∧ ((rZ = 0 ∨ rZ = 1)) ∧ (LOW (s0 5) (sZ 5) ((200 * s0 7 0) + s0 24 0)) ∧ (0 ≤ sZ 22 0 ∧ s0 24 0 ≤ sZ 24 0 ∧ sZ 24 0 + sZ 22 0 ≤ s0 24 0 + s0 22 0 + 1) ∧ (s0 23 0 - (s0 22 0 + 1 - sZ 22 0) ≤ sZ 23 0 ∧ sZ 23 0 ≤ s0 23 0) ∧ (rZ = 1 → TRN (s0 5) (s0 21) (200 * s0 7 0) (s0 24 0) (s0 22 0) 1 (sZ 5) (sZ 21) (sZ 24 0) (sZ 22 0) 0) := by
      intro  hq hT
      rw [hj20c] at hT
      obtain ⟨r22, s23, hs23⟩ : ∃ rr ss, (f_X9_holds x0 s8) = (rr, ss) := ⟨_, _, rfl⟩
      replace hT := gby hT hs23
      have hp24 := f_X9_holds_p x0 s8 (by omega) hm_s8 (by first | assumption | omega) r22 s23 hs23
      obtain ⟨hfc_s23, hm_s23, hp25, hp26, hp27⟩ := hp24
      have hf_s23 : fr [5, 21, 22, 23, 24] s0 s23 := hf_s8.call (by decide) hfc_s23
      have htf5_s23 : s23 5 = s8 5 := hfc_s23 5 (by decide)
      have ht28 : s23 7 0 = s8 7 0 := by rw [hfc_s23 7 (by decide)]
      have ht29 : s23 23 0 = s8 23 0 := by rw [hfc_s23 23 (by decide)]
      have ht30 : s23 24 0 = s8 24 0 := by rw [hfc_s23 24 (by decide)]
      obtain ⟨rfl, rfl⟩ := Prod.mk.inj (hT.symm.trans hres)
      exact ⟨hf_s23, hm_s23, (by first | exact Or.inl rfl | exact Or.inr rfl | omega), (by first | exact LOW_0 _ _ | exact TRN_LOW (by assumption) (by assumption) (by omega) | exact TRN_LOW (by assumption) rfl (by omega)), (by first | assumption | omega), (by first | assumption | omega), (by first | (intro h; omega) | (intro _; exact BTW1 (by assumption) (by assumption) (by assumption) (by assumption) (by omega) (by omega) (by omega) (by omega) (by omega)))⟩
    by_cases h19 : (f_X9_rank x0) = 4
    · replace hT := hT.trans (if_pos h19)
      have hr31 := (hm_s8 22 0).1 rfl
      by_cases h32 : 0 < (s8 22 0)
      · replace hT := hT.trans (if_pos h32)
        have hr33 := (hm_s8 22 0).1 rfl
        have hr34 := (hm_s8 21 ((s8 22 0) - 1)).1 rfl
        have hp36 := f_X9_rank_p (s8 21 ((s8 22 0) - 1)) (by omega) 
        by_cases h37 : (f_X9_rank (s8 21 ((s8 22 0) - 1))) = 4
        · replace hT := hT.trans (if_pos h37)
          obtain ⟨rfl, rfl⟩ := Prod.mk.inj (hT.symm.trans hres)
          exact ⟨hf_s8, hm_s8, (by first | exact Or.inl rfl | exact Or.inr rfl | omega), (by first | exact LOW_0 _ _ | exact TRN_LOW (by assumption) (by assumption) (by omega) | exact TRN_LOW (by assumption) rfl (by omega)), (by first | assumption | omega), (by first | assumption | omega), (by first | (intro h; omega) | (intro _; exact BTW1 (by assumption) (by assumption) (by assumption) (by assumption) (by omega) (by omega) (by omega) (by omega) (by omega)))⟩
        · replace hT := hT.trans (if_neg h37)
          exact j20  trivial hT
      · replace hT := hT.trans (if_neg h32)
        exact j20  trivial hT
    · replace hT := hT.trans (if_neg h19)
      exact j20  trivial hT
  replace hT := hz40
  by_cases h3 : (f_X9_rank x0) = 4
  · replace hT := hT.trans (if_pos h3)
    exact j4 5 ⟨(by omega), (by first | assumption | omega)⟩ hT
  · replace hT := hT.trans (if_neg h3)
    have hp42 := f_X9_rank_p x0 (by omega) 
    exact j4 (f_X9_rank x0) ⟨(by omega), (by first | assumption | omega)⟩ hT
set_option maxRecDepth 100000 in
set_option maxHeartbeats 4000000 in
theorem c_X9_between (l : Launch) (D : va_G) (a : Nat → Nat) (cI cJ cS cT : ClassId) (s0 : gMem) (x0 : Int) (hx0 : in32 x0) (hpre0 : 0 ≤ s0 22 0 ∧ 0 ≤ s0 24 0 ∧ s0 24 0 + s0 22 0 ≤ 160) (hpre1 : 0 ≤ s0 7 0 ∧ s0 7 0 ≤ 5) (hpre2 : -1000 ≤ s0 23 0 ∧ s0 23 0 ≤ 5) (hpre3 : 11 ≤ x0 ∧ x0 ≤ 18 ∧ x0 ≠ 13) : gC l yX9_between cX9_between 2 (some .boolean) 3 192 D vwCl (gT cI cJ cS cT) (wdM a cI cJ) lgM kI rgZ [.ref (a 0), gI x0] s0 (f_X9_between x0 s0) := by
  refine gC_of (by decide +kernel) (hwdM a cI cJ) (Nat.le_of_ble_eq_true rfl) ?_
  intro A p e R s m args below meth c hR E
  subst hR
  have hT := f_X9_between_e x0 s0
  have hf_s0 : fr [5, 21, 22, 23, 24] s0 s0 := fr.rf _ _
  refine k_lv0 (lv' := [(0, .ref (a 0)), (1, gI x0)]) rfl ?_
  refine k_mr (fun hm_s0 => ?_)
  refine k_aloadn (pc := 0) E 0 dX9_between_0 rfl rfl ?_
  refine k_iloadn (pc := 1) E 1 dX9_between_1 rfl rfl ?_
  refine k_mr (fun hm_s0 => ?_)
  refine k_callS (pc := 2) (np := 1) (As := [gI x0]) (st := [.ref (a 0)]) E (c_X9_rank l D a cI cJ cS cT s0 x0 (by omega)) wm_881 wm_11 wm_879 wm_880 (by decide +kernel) ⟨by decide, by decide⟩ rfl (Nat.le_of_ble_eq_true rfl) dX9_between_2 (ro_kk (fun hr1 => ?_))
  have hp2 := f_X9_rank_p x0 (by omega) 
  refine k_st (st' := [gI (f_X9_rank x0), .ref (a 0)]) rfl ?_
  refine k_iconst (pc := 5) E dX9_between_5 ?_
  obtain ⟨z40, hz40, hT⟩ := gl1x hT
  have j4 : ∀ (v5 : Int), ((in32 v5) ∧ (1 ≤ v5 ∧ v5 ≤ 7)) → z40 = v5 → gK D vwCl (wdM a cI cJ) lgM A p l e { frames := 3, cells := 0, slots := 0, locals := 192 } s m args below meth c 2 (gQQ D vwCl (wdM a cI cJ) lgM A kI rgZ below args s) (f_X9_between x0 s0) s0 17 [(0, .ref (a 0)), (1, gI x0)] [gI v5, .ref (a 0)] := by
    intro v5 hq hz
    obtain ⟨hq38, hq39⟩ := hq
    replace hT := gl1y hT hz
    refine k_mr (fun hm_s0 => ?_)
    refine k_callV (pc := 17) (np := 1) (As := [gI v5]) (st := []) (q0 := 0) E (c_X9_unwinds l D a cI cJ cS cT s0 v5 (by omega) (by first | assumption | omega) (by first | assumption | omega) (by first | assumption | omega) (by first | assumption | omega)) wm_878 wm_11 wm_875 wm_877 wp_29 (by decide +kernel) rfl rfl ⟨by decide, by decide⟩ rfl (Nat.le_of_ble_eq_true rfl) dX9_between_17 (fun r7 s8 hs8 hr6 => ?_)
    replace hT := gby hT hs8
    have hp9 := f_X9_unwinds_p v5 s0 (by omega) hm_s0 (by first | assumption | omega) (by first | assumption | omega) (by first | assumption | omega) (by first | assumption | omega) r7 s8 hs8
    obtain ⟨hfc_s8, hm_s8, hp10, hp11, hp12, hp13, hp14, hp15⟩ := hp9
    have hf_s8 : fr [5, 21, 22, 23, 24] s0 s8 := hf_s0.call (by decide) hfc_s8
    have htf21_s8 : s8 21 = s0 21 := hfc_s8 21 (by decide)
    have ht16 : s8 7 0 = s0 7 0 := by rw [hfc_s8 7 (by decide)]
    refine k_st (st' := []) rfl ?_
    refine k_iloadn (pc := 20) E 1 dX9_between_20 rfl rfl ?_
    refine k_mr (fun hm_s8 => ?_)
    refine k_callS (pc := 21) (np := 1) (As := [gI x0]) (st := []) E (c_X9_rank l D a cI cJ cS cT s8 x0 (by omega)) wm_881 wm_11 wm_879 wm_880 (by decide +kernel) ⟨by decide, by decide⟩ rfl (Nat.le_of_ble_eq_true rfl) dX9_between_21 (ro_kk (fun hr17 => ?_))
    have hp18 := f_X9_rank_p x0 (by omega) 
    refine k_st (st' := [gI (f_X9_rank x0)]) rfl ?_
    refine k_iconst (pc := 24) E dX9_between_24 ?_
    obtain ⟨j20c, hj20c, hT⟩ := gjx hT
    have j20 : (True) → (f_X9_between x0 s0) = j20c  → gK D vwCl (wdM a cI cJ) lgM A p l e { frames := 3, cells := 0, slots := 0, locals := 192 } s m args below meth c 2 (gQQ D vwCl (wdM a cI cJ) lgM A kI rgZ below args s) (f_X9_between x0 s0) s8 55 [(0, .ref (a 0)), (1, gI x0)] [] := by
      intro  hq hT
      rw [hj20c] at hT
      refine k_aloadn (pc := 55) E 0 dX9_between_55 rfl rfl ?_
      refine k_iloadn (pc := 56) E 1 dX9_between_56 rfl rfl ?_
      refine k_mr (fun hm_s8 => ?_)
      refine k_callV (pc := 57) (np := 1) (As := [gI x0]) (st := []) (q0 := 0) E (c_X9_holds l D a cI cJ cS cT s8 x0 (by omega) (by first | assumption | omega)) wm_889 wm_11 wm_886 wm_888 wp_31 (by decide +kernel) rfl rfl ⟨by decide, by decide⟩ rfl (Nat.le_of_ble_eq_true rfl) dX9_between_57 (fun r22 s23 hs23 hr21 => ?_)
      replace hT := gby hT hs23
      have hp24 := f_X9_holds_p x0 s8 (by omega) hm_s8 (by first | assumption | omega) r22 s23 hs23
      obtain ⟨hfc_s23, hm_s23, hp25, hp26, hp27⟩ := hp24
      have hf_s23 : fr [5, 21, 22, 23, 24] s0 s23 := hf_s8.call (by decide) hfc_s23
      have htf5_s23 : s23 5 = s8 5 := hfc_s23 5 (by decide)
      have ht28 : s23 7 0 = s8 7 0 := by rw [hfc_s23 7 (by decide)]
      have ht29 : s23 23 0 = s8 23 0 := by rw [hfc_s23 23 (by decide)]
      have ht30 : s23 24 0 = s8 24 0 := by rw [hfc_s23 24 (by decide)]
      refine k_st (st' := []) rfl ?_
      refine k_iconst (pc := 60) E dX9_between_60 ?_
      exact k_rho hT (k_zret (pc := 61) E dX9_between_61 (by first | exact Or.inl rfl | exact Or.inr rfl | omega))
    by_cases h19 : (f_X9_rank x0) = 4
    · replace hT := hT.trans (if_pos h19)
      refine k_icmp_ne_f (pc := 25) (tgt := 55) E (by omega) (by omega) dX9_between_25 (by decide) h19 ?_
      refine k_aloadn (pc := 28) E 0 dX9_between_28 rfl rfl ?_
      refine k_getfI (pc := 29) (q0 := 0) (f := 22) (k := 22) E inX9 rfl rfl (by decide) wm_920 rfl rfl rfl dX9_between_29 (fun hr31 => ?_)
      by_cases h32 : 0 < (s8 22 0)
      · replace hT := hT.trans (if_pos h32)
        refine k_if_le_f (pc := 32) (tgt := 55) E (by omega) dX9_between_32 (by decide) h32 ?_
        refine k_aloadn (pc := 35) E 0 dX9_between_35 rfl rfl ?_
        refine k_getf (pc := 36) (q0 := 0) (f := 21) (v := .ref (a 13)) E inX9 rfl rfl (by decide) wm_919 rfl rfl dX9_between_36 ?_
        refine k_aloadn (pc := 39) E 0 dX9_between_39 rfl rfl ?_
        refine k_getfI (pc := 40) (q0 := 0) (f := 22) (k := 22) E inX9 rfl rfl (by decide) wm_920 rfl rfl rfl dX9_between_40 (fun hr33 => ?_)
        refine k_iconst (pc := 43) E dX9_between_43 ?_
        refine k_isub (pc := 44) E dX9_between_44 ?_
        refine k_iaload (pc := 45) (q0 := 13) (t0 := 0) (k := 21) (n := 200) E rfl rfl rfl (by decide) (by omega) (by omega) dX9_between_45 (fun hr34 => ?_)
        refine k_mr (fun hm_s8 => ?_)
        refine k_callS (pc := 46) (np := 1) (As := [gI (s8 21 ((s8 22 0) - 1))]) (st := []) E (c_X9_rank l D a cI cJ cS cT s8 (s8 21 ((s8 22 0) - 1)) (by omega)) wm_881 wm_11 wm_879 wm_880 (by decide +kernel) ⟨by decide, by decide⟩ rfl (Nat.le_of_ble_eq_true rfl) dX9_between_46 (ro_kk (fun hr35 => ?_))
        have hp36 := f_X9_rank_p (s8 21 ((s8 22 0) - 1)) (by omega) 
        refine k_st (st' := [gI (f_X9_rank (s8 21 ((s8 22 0) - 1)))]) rfl ?_
        refine k_iconst (pc := 49) E dX9_between_49 ?_
        by_cases h37 : (f_X9_rank (s8 21 ((s8 22 0) - 1))) = 4
        · replace hT := hT.trans (if_pos h37)
          refine k_icmp_ne_f (pc := 50) (tgt := 55) E (by omega) (by omega) dX9_between_50 (by decide) h37 ?_
          refine k_iconst (pc := 53) E dX9_between_53 ?_
          exact k_rho hT (k_zret (pc := 54) E dX9_between_54 (by first | exact Or.inl rfl | exact Or.inr rfl | omega))
        · replace hT := hT.trans (if_neg h37)
          refine k_icmp_ne_t (pc := 50) (tgt := 55) E (by omega) (by omega) dX9_between_50 (by decide) h37 ?_
          exact j20  trivial hT
      · replace hT := hT.trans (if_neg h32)
        refine k_if_le_t (pc := 32) (tgt := 55) E (by omega) dX9_between_32 (by decide) h32 ?_
        exact j20  trivial hT
    · replace hT := hT.trans (if_neg h19)
      refine k_icmp_ne_t (pc := 25) (tgt := 55) E (by omega) (by omega) dX9_between_25 (by decide) h19 ?_
      exact j20  trivial hT
  replace hT := hz40
  by_cases h3 : (f_X9_rank x0) = 4
  · replace hT := hT.trans (if_pos h3)
    refine k_icmp_ne_f (pc := 6) (tgt := 13) E (by omega) (by omega) dX9_between_6 (by decide) h3 ?_
    refine k_iconst (pc := 9) E dX9_between_9 ?_
    refine k_goto (pc := 10) (tgt := 17) E dX9_between_10 (by decide) ?_
    exact j4 5 ⟨(by omega), (by first | assumption | omega)⟩ hT
  · replace hT := hT.trans (if_neg h3)
    refine k_icmp_ne_t (pc := 6) (tgt := 13) E (by omega) (by omega) dX9_between_6 (by decide) h3 ?_
    refine k_iloadn (pc := 13) E 1 dX9_between_13 rfl rfl ?_
    refine k_mr (fun hm_s0 => ?_)
    refine k_callS (pc := 14) (np := 1) (As := [gI x0]) (st := [.ref (a 0)]) E (c_X9_rank l D a cI cJ cS cT s0 x0 (by omega)) wm_881 wm_11 wm_879 wm_880 (by decide +kernel) ⟨by decide, by decide⟩ rfl (Nat.le_of_ble_eq_true rfl) dX9_between_14 (ro_kk (fun hr41 => ?_))
    have hp42 := f_X9_rank_p x0 (by omega) 
    refine k_st (st' := [gI (f_X9_rank x0), .ref (a 0)]) rfl ?_
    exact j4 (f_X9_rank x0) ⟨(by omega), (by first | assumption | omega)⟩ hT
