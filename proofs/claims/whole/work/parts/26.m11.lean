theorem wp_25 : Cond.selects RX9 yX9_next yX9_next ∈ gBIG := gm (List.mem_of_getElem? (i := 25) (by decide +kernel)) (by decide +kernel)
theorem wp_30 : Cond.selects RX9 yX9_opensOne yX9_opensOne ∈ gBIG := gm (List.mem_of_getElem? (i := 30) (by decide +kernel)) (by decide +kernel)
theorem wp_32 : Cond.selects RX9 yX9_signOf yX9_signOf ∈ gBIG := gm (List.mem_of_getElem? (i := 32) (by decide +kernel)) (by decide +kernel)
theorem wp_33 : Cond.selects RX9 yX9_between yX9_between ∈ gBIG := gm (List.mem_of_getElem? (i := 33) (by decide +kernel)) (by decide +kernel)
theorem wm_855 : Cond.methodLink RX9 130 yX9_next ∈ gBIG := gm (List.mem_of_getElem? (i := 909) (by decide +kernel)) (by decide +kernel)
theorem wm_857 : Cond.instanceMethod yX9_next ∈ gBIG := gm (List.mem_of_getElem? (i := 911) (by decide +kernel)) (by decide +kernel)
theorem wm_858 : Cond.code yX9_next cX9_next 3 none ∈ gBIG := gm (List.mem_of_getElem? (i := 912) (by decide +kernel)) (by decide +kernel)
theorem wm_882 : Cond.methodLink RX9 134 yX9_opensOne ∈ gBIG := gm (List.mem_of_getElem? (i := 936) (by decide +kernel)) (by decide +kernel)
theorem wm_884 : Cond.instanceMethod yX9_opensOne ∈ gBIG := gm (List.mem_of_getElem? (i := 938) (by decide +kernel)) (by decide +kernel)
theorem wm_885 : Cond.code yX9_opensOne cX9_opensOne 2 (some .boolean) ∈ gBIG := gm (List.mem_of_getElem? (i := 939) (by decide +kernel)) (by decide +kernel)
theorem wm_890 : Cond.methodLink RX9 137 yX9_signOf ∈ gBIG := gm (List.mem_of_getElem? (i := 944) (by decide +kernel)) (by decide +kernel)
theorem wm_892 : Cond.instanceMethod yX9_signOf ∈ gBIG := gm (List.mem_of_getElem? (i := 946) (by decide +kernel)) (by decide +kernel)
theorem wm_893 : Cond.code yX9_signOf cX9_signOf 1 (some .int) ∈ gBIG := gm (List.mem_of_getElem? (i := 947) (by decide +kernel)) (by decide +kernel)
theorem wm_894 : Cond.methodLink RX9 140 yX9_between ∈ gBIG := gm (List.mem_of_getElem? (i := 948) (by decide +kernel)) (by decide +kernel)
theorem wm_896 : Cond.instanceMethod yX9_between ∈ gBIG := gm (List.mem_of_getElem? (i := 950) (by decide +kernel)) (by decide +kernel)
theorem wm_897 : Cond.code yX9_between cX9_between 2 (some .boolean) ∈ gBIG := gm (List.mem_of_getElem? (i := 951) (by decide +kernel)) (by decide +kernel)
/-! one part of a text -/
theorem RDY_0 (f5 f21 : Int → Int) {B st o h k : Int} (h0 : 0 ≤ st) (eo : o = st) (eh : h = 0) (ek : k = 0) : RDY f5 f21 B st o h k := by
  subst eo; subst eh; subst ek
  refine ⟨fun i i1 i2 => absurd i1 (by omega), h0, by omega, by omega, fun j j1 j2 => absurd j1 (by omega), ?_⟩
  have e : (o - o).toNat = 0 := by omega
  rw [e]
  rfl
theorem E_num {f5 f21 p5 p21 m5 u5 u21 : Int → Int} {B B2 st o h k k2 o2 h2 o3 h3 q c : Int} (t : TRN p5 p21 B2 o2 h2 1 u5 p21 o3 h3 1) (hp : ∀ i, p5 i = if i = q then c else m5 i) (em : m5 = f5) (e21 : p21 = f21) (eu : u21 = f21) (rd : RDY f5 f21 B st o h k) (ek : k = 0) (hq : q = B + o) (hc : (0 ≤ c ∧ c ≤ 5) ∨ (100000 ≤ c ∧ c ≤ 109999)) (eB : B2 = B) (eo : o2 = o + 1) (eh : h2 = h) (ek2 : k2 = 1) : RDY u5 u21 B st o3 h3 k2 := by
  subst em; subst e21; subst eu; subst ek; subst eB; subst eo; subst eh; subst ek2
  exact t.1 st ((TRN_num rd.2.2.2.1 hp hq hc).1 st rd)
theorem E_open {f5 f21 k5 k21 m21 : Int → Int} {B st o h k k2 q c r w w3 h3 o3 : Int} (hd : (r = 0 ∧ h3 = q ∧ w3 = w ∧ k21 = m21) ∨ (r = 1 ∧ h3 = q + 1 ∧ w3 = w + 1 ∧ w3 ≤ 5 ∧ ∀ i, k21 i = if i = q then c else m21 i)) (hr : ¬ r = 0) (em : m21 = f21) (e5 : k5 = f5) (rd : RDY f5 f21 B st o h k) (hq : q = h) (hc : c = 0 ∨ c = 13 ∨ c = 19) (eo : o3 = o) (ek : k = 0) (ek2 : k2 = 0) : RDY k5 k21 B st o3 h3 k2 := by
  subst em; subst e5; subst eo; subst ek; subst ek2
  rcases hd with hd | hd
  · exact absurd hd.1 hr
  · rw [hd.2.1, hq]
    exact (TRN_open (f5 := k5) (B := B) (o := o3) hd.2.2.2.2 hq hc).1 st rd
theorem E_close {f5 f21 n5 n21 g5 c5 c21 w21 u5 u21 : Int → Int} {B B1 B2 st o h k k2 o1 h1 o2 h2 o3 h3 o4 h4 : Int} (t2 : TRN c5 c21 B2 o3 h3 1 u5 c21 o4 h4 1) (e5 : c5 = g5) (t1 : TRN n5 n21 B1 o1 h1 1 g5 n21 o2 h2 1) (en5 : n5 = f5) (en21 : n21 = f21) (ec21 : c21 = f21) (eu21 : u21 = f21) (hI : h2 = 0 ∨ ((1 : Int) = 1 → w21 (h2 - 1) = 0)) (ew : w21 = f21) (rd : RDY f5 f21 B st o h k) (ek : k = 1) (eB1 : B1 = B) (eB2 : B2 = B) (eo1 : o1 = o) (eh1 : h1 = h) (hh : 1 ≤ h2) (eo3 : o3 = o2) (eh3 : h3 = h2 - 1) (ek2 : k2 = 1) : RDY u5 u21 B st o4 h4 k2 := by
  subst e5; subst en5; subst en21; subst ec21; subst eu21; subst ew; subst ek; subst eB1; subst eB2; subst eo1; subst eh1; subst eo3; subst eh3; subst ek2
  rcases hI with hI | hI
  · omega
  · exact t2.1 st ((TRN_close hh (hI rfl)).1 st (t1.1 st rd))
theorem E_sign {f5 f21 n5 n21 g5 g21 : Int → Int} {B B1 st o h k k2 o1 h1 o2 h2 r : Int} (hp : r = 1 → TRN n5 n21 B1 o1 h1 1 g5 g21 o2 h2 0) (hr : r = 1) (en5 : n5 = f5) (en21 : n21 = f21) (rd : RDY f5 f21 B st o h k) (ek : k = 1) (eB : B1 = B) (eo : o1 = o) (eh : h1 = h) (ek2 : k2 = 0) : RDY g5 g21 B st o2 h2 k2 := by
  subst en5; subst en21; subst ek; subst eB; subst eo; subst eh; subst ek2
  exact (hp hr).1 st rd
theorem E_end {f5 f21 n5 n21 g5 g21 : Int → Int} {B B1 st o h k o1 h1 o2 h2 : Int} (t : TRN n5 n21 B1 o1 h1 1 g5 n21 o2 h2 1) (en5 : n5 = f5) (en21 : n21 = f21) (eg : g21 = f21) (rd : RDY f5 f21 B st o h k) (ek : k = 1) (eB : B1 = B) (eo : o1 = o) (eh : h1 = h) (h0 : h2 = 0) : RDY g5 g21 B st o2 0 1 := by
  subst en5; subst en21; subst eg; subst ek; subst eB; subst eo; subst eh; subst h0
  exact t.1 st rd
theorem LOW_t {f0 f5 n5 g5 : Int → Int} {b b2 : Int} (l2 : LOW n5 g5 b2) (en : n5 = f5) (l : LOW f0 f5 b) (hb : b ≤ b2) : LOW f0 g5 b := by
  subst en
  exact fun i hi => (l2 i (by omega)).trans (l i hi)
theorem LOW_n {f0 f5 p5 p21 m5 u5 : Int → Int} {b B2 o2 h2 o3 h3 q c : Int} (t : TRN p5 p21 B2 o2 h2 1 u5 p21 o3 h3 1) (hp : ∀ i, p5 i = if i = q then c else m5 i) (em : m5 = f5) (l : LOW f0 f5 b) (hq : b ≤ q) (hb : b ≤ B2 + o2) : LOW f0 u5 b := by
  subst em
  exact fun i hi => (t.2 i (by omega)).trans ((hp i).trans (by rw [if_neg (by omega)]; exact l i hi))
theorem LOW_c {f0 f5 n5 n21 g5 c5 c21 u5 : Int → Int} {b B1 B2 o1 h1 o2 h2 o3 h3 o4 h4 : Int} (t2 : TRN c5 c21 B2 o3 h3 1 u5 c21 o4 h4 1) (e5 : c5 = g5) (t1 : TRN n5 n21 B1 o1 h1 1 g5 n21 o2 h2 1) (en : n5 = f5) (l : LOW f0 f5 b) (h1' : b ≤ B1 + o1) (h2' : b ≤ B2 + o3) : LOW f0 u5 b := by
  subst e5; subst en
  exact fun i hi => (t2.2 i (by omega)).trans ((t1.2 i (by omega)).trans (l i hi))
theorem LOW_u {f0 f5 n5 n21 g5 : Int → Int} {b B1 o1 h1 o2 h2 : Int} (t1 : TRN n5 n21 B1 o1 h1 1 g5 n21 o2 h2 1) (en : n5 = f5) (l : LOW f0 f5 b) (hb : b ≤ B1 + o1) : LOW f0 g5 b := by
  subst en
  exact fun i hi => (t1.2 i (by omega)).trans (l i hi)

def t_X9_eRead_14  : Nat → Int → Int → gMem → gRes
  | 0, v21, v22, s23 => (0, s23)
  | n24 + 1, v21, v22, s23 => gb (f_X9_next  s23) (fun r26 s27 => (if v21 = 0 then (if (s27 18 0) = 59 then gb (f_X9_unwinds 1 s27) (fun r43 s44 => (if (s44 22 0) = 0 then (1, s44) else (0, s44))) else (if (s27 18 0) = 41 then gb (f_X9_unwinds 1 s27) (fun r63 s64 => (if (s64 22 0) = 0 then (0, s64) else gl (mset s64 22 0 ((s64 22 0) - 1)) (fun s81 => gl (mset s81 23 0 ((s81 23 0) - 1)) (fun s92 => gb (f_X9_unwinds 7 s92) (fun r103 s104 => (t_X9_eRead_14 n24 v21 v22 s104)))))) else (if (f_X9_signOf  s27) = (-1) then (0, s27) else gb (f_X9_between (f_X9_signOf  s27) s27) (fun r122 s123 => (if r122 = 0 then (0, s123) else (gl ((if 12 < (f_X9_signOf  s27) then 0 else 1)) (fun v139 => (t_X9_eRead_14 n24 1 v139 s123)))))))) else (gj (fun j145c => (if (s27 18 0) = 1 then j145c else (if (s27 18 0) = 2 then j145c else (gj (fun j191c => (if (s27 18 0) = 6 then (if v22 = 0 then j191c else gb (f_X9_opensOne 13 s27) (fun r226 s227 => (if r226 = 0 then (0, s227) else (t_X9_eRead_14 n24 v21 v22 s227)))) else j191c)) ((if (s27 18 0) = 45 then gb (f_X9_opensOne 19 s27) (fun r195 s196 => (if r195 = 0 then (0, s196) else (t_X9_eRead_14 n24 v21 0 s196))) else (if (s27 18 0) = 40 then gb (f_X9_opensOne 0 s27) (fun r211 s212 => (if r211 = 0 then (0, s212) else (t_X9_eRead_14 n24 v21 1 s212))) else (0, s27)))))))) ((gl ((if (s27 18 0) = 1 then (100000 + (s27 19 0)) else (s27 19 0))) (fun v149 => gb (f_X9_puts v149 s27) (fun r151 s152 => gb (f_X9_unwinds 7 s152) (fun r166 s167 => (t_X9_eRead_14 n24 0 v22 s167)))))))))
theorem t_X9_eRead_14_s  (n24 : Nat) (v21 : Int) (v22 : Int) (s23 : gMem) : t_X9_eRead_14  (n24 + 1) v21 v22 s23 = gb (f_X9_next  s23) (fun r26 s27 => (if v21 = 0 then (if (s27 18 0) = 59 then gb (f_X9_unwinds 1 s27) (fun r43 s44 => (if (s44 22 0) = 0 then (1, s44) else (0, s44))) else (if (s27 18 0) = 41 then gb (f_X9_unwinds 1 s27) (fun r63 s64 => (if (s64 22 0) = 0 then (0, s64) else gl (mset s64 22 0 ((s64 22 0) - 1)) (fun s81 => gl (mset s81 23 0 ((s81 23 0) - 1)) (fun s92 => gb (f_X9_unwinds 7 s92) (fun r103 s104 => (t_X9_eRead_14 n24 v21 v22 s104)))))) else (if (f_X9_signOf  s27) = (-1) then (0, s27) else gb (f_X9_between (f_X9_signOf  s27) s27) (fun r122 s123 => (if r122 = 0 then (0, s123) else (gl ((if 12 < (f_X9_signOf  s27) then 0 else 1)) (fun v139 => (t_X9_eRead_14 n24 1 v139 s123)))))))) else (gj (fun j145c => (if (s27 18 0) = 1 then j145c else (if (s27 18 0) = 2 then j145c else (gj (fun j191c => (if (s27 18 0) = 6 then (if v22 = 0 then j191c else gb (f_X9_opensOne 13 s27) (fun r226 s227 => (if r226 = 0 then (0, s227) else (t_X9_eRead_14 n24 v21 v22 s227)))) else j191c)) ((if (s27 18 0) = 45 then gb (f_X9_opensOne 19 s27) (fun r195 s196 => (if r195 = 0 then (0, s196) else (t_X9_eRead_14 n24 v21 0 s196))) else (if (s27 18 0) = 40 then gb (f_X9_opensOne 0 s27) (fun r211 s212 => (if r211 = 0 then (0, s212) else (t_X9_eRead_14 n24 v21 1 s212))) else (0, s27)))))))) ((gl ((if (s27 18 0) = 1 then (100000 + (s27 19 0)) else (s27 19 0))) (fun v149 => gb (f_X9_puts v149 s27) (fun r151 s152 => gb (f_X9_unwinds 7 s152) (fun r166 s167 => (t_X9_eRead_14 n24 0 v22 s167))))))))) := rfl
def f_X9_eRead  (s0 : gMem) : gRes := gl (mset s0 22 0 0) (fun s1 => gl (mset s1 23 0 0) (fun s11 => (t_X9_eRead_14 161 1 1 s11)))
theorem f_X9_eRead_e  (s0 : gMem) : f_X9_eRead s0 = gl (mset s0 22 0 0) (fun s1 => gl (mset s1 23 0 0) (fun s11 => (t_X9_eRead_14 161 1 1 s11))) := rfl
set_option maxRecDepth 100000 in
set_option maxHeartbeats 4000000 in
theorem f_X9_eRead_p  (s0 : gMem)  (hm_s0 : gMR lgM s0) (hpre0 : 0 ≤ s0 4 0 ∧ s0 4 0 ≤ 160) (hpre1 : 0 ≤ s0 16 0 ∧ s0 16 0 ≤ s0 4 0) (hpre2 : 0 ≤ s0 7 0 ∧ s0 7 0 ≤ 5) (hpre3 : 0 ≤ s0 24 0 ∧ s0 24 0 ≤ s0 16 0) (rZ : Int) (sZ : gMem) (hres : f_X9_eRead s0 = (rZ, sZ)) : (fr [5, 16, 17, 18, 19, 21, 22, 23, 24] s0 sZ) ∧ (gMR lgM sZ) ∧ ((rZ = 0 ∨ rZ = 1)) ∧ (s0 16 0 ≤ sZ 17 0 ∧ sZ 17 0 ≤ sZ 16 0 ∧ sZ 16 0 ≤ s0 4 0) ∧ (LOW (s0 5) (sZ 5) ((200 * s0 7 0) + s0 24 0)) ∧ (s0 24 0 ≤ sZ 24 0 ∧ sZ 24 0 ≤ sZ 16 0) ∧ (rZ = 1 → RDY (sZ 5) (sZ 21) (200 * s0 7 0) (s0 24 0) (sZ 24 0) 0 1) := by
  have hT := f_X9_eRead_e  s0
  have hf_s0 : fr [5, 16, 17, 18, 19, 21, 22, 23, 24] s0 s0 := fr.rf _ _
  obtain ⟨s1, hs1, hT⟩ := glx hT
  have hf_s1 : fr [5, 16, 17, 18, 19, 21, 22, 23, 24] s0 s1 := hs1 ▸ hf_s0.set (by decide)
  have hm_s1 : gMR lgM s1 := hs1 ▸ hm_s0.set32 rfl (by omega)
  have ht2 : s1 4 0 = s0 4 0 := by rw [hs1]; exact mset_ne _ _ _ _ _ (by decide)
  have ht3 : s1 7 0 = s0 7 0 := by rw [hs1]; exact mset_ne _ _ _ _ _ (by decide)
  have ht4 : s1 16 0 = s0 16 0 := by rw [hs1]; exact mset_ne _ _ _ _ _ (by decide)
  have ht5 : s1 17 0 = s0 17 0 := by rw [hs1]; exact mset_ne _ _ _ _ _ (by decide)
  have ht6 : s1 18 0 = s0 18 0 := by rw [hs1]; exact mset_ne _ _ _ _ _ (by decide)
  have ht7 : s1 19 0 = s0 19 0 := by rw [hs1]; exact mset_ne _ _ _ _ _ (by decide)
  have ht8 : s1 22 0 = 0 := by rw [hs1]; exact mset_eq _ _ _ _
  have ht9 : s1 23 0 = s0 23 0 := by rw [hs1]; exact mset_ne _ _ _ _ _ (by decide)
  have ht10 : s1 24 0 = s0 24 0 := by rw [hs1]; exact mset_ne _ _ _ _ _ (by decide)
  have htf5_s1 : s1 5 = s0 5 := (by rw [hs1]; exact mset_nf (by decide))
  have htf21_s1 : s1 21 = s0 21 := (by rw [hs1]; exact mset_nf (by decide))
  obtain ⟨s11, hs11, hT⟩ := glx hT
  have hf_s11 : fr [5, 16, 17, 18, 19, 21, 22, 23, 24] s0 s11 := hs11 ▸ hf_s1.set (by decide)
  have hm_s11 : gMR lgM s11 := hs11 ▸ hm_s1.set32 rfl (by omega)
  have ht12 : s11 4 0 = s1 4 0 := by rw [hs11]; exact mset_ne _ _ _ _ _ (by decide)
  have ht13 : s11 7 0 = s1 7 0 := by rw [hs11]; exact mset_ne _ _ _ _ _ (by decide)
  have ht14 : s11 16 0 = s1 16 0 := by rw [hs11]; exact mset_ne _ _ _ _ _ (by decide)
  have ht15 : s11 17 0 = s1 17 0 := by rw [hs11]; exact mset_ne _ _ _ _ _ (by decide)
  have ht16 : s11 18 0 = s1 18 0 := by rw [hs11]; exact mset_ne _ _ _ _ _ (by decide)
  have ht17 : s11 19 0 = s1 19 0 := by rw [hs11]; exact mset_ne _ _ _ _ _ (by decide)
  have ht18 : s11 22 0 = s1 22 0 := by rw [hs11]; exact mset_ne _ _ _ _ _ (by decide)
  have ht19 : s11 23 0 = 0 := by rw [hs11]; exact mset_eq _ _ _ _
  have ht20 : s11 24 0 = s1 24 0 := by rw [hs11]; exact mset_ne _ _ _ _ _ (by decide)
  have htf5_s11 : s11 5 = s0 5 := ((by rw [hs11]; exact mset_nf (by decide)) : s11 5 = s1 5).trans htf5_s1
  have htf21_s11 : s11 21 = s0 21 := ((by rw [hs11]; exact mset_nf (by decide)) : s11 21 = s1 21).trans htf21_s1
  have L242 : ∀ (n243 : Nat) (v239 : Int) (v240 : Int) (s241 : gMem), ((in32 v239) ∧ (in32 v240) ∧ (fr [5, 16, 17, 18, 19, 21, 22, 23, 24] s0 s241) ∧ (gMR lgM s241) ∧ (s241 4 0 = s11 4 0) ∧ (s241 7 0 = s11 7 0) ∧ (0 ≤ v239 ∧ v239 ≤ 1) ∧ (0 ≤ v240 ∧ v240 ≤ 1) ∧ (s0 16 0 ≤ s241 16 0 ∧ s241 16 0 ≤ s0 4 0) ∧ (0 ≤ s241 22 0 ∧ s0 24 0 ≤ s241 24 0 ∧ s241 24 0 + s241 22 0 ≤ s241 16 0) ∧ (s241 22 0 - s241 16 0 ≤ s241 23 0 ∧ s241 23 0 ≤ 5) ∧ (LOW (s0 5) (s241 5) ((200 * s0 7 0) + s0 24 0)) ∧ (RDY (s241 5) (s241 21) (200 * s0 7 0) (s0 24 0) (s241 24 0) (s241 22 0) (1 - v239))) → s0 4 0 - s241 16 0 < (n243 : Int) → (f_X9_eRead s0) = (t_X9_eRead_14 n243 v239 v240 s241) → (fr [5, 16, 17, 18, 19, 21, 22, 23, 24] s0 sZ) ∧ (gMR lgM sZ) ∧ ((rZ = 0 ∨ rZ = 1)) ∧ (s0 16 0 ≤ sZ 17 0 ∧ sZ 17 0 ≤ sZ 16 0 ∧ sZ 16 0 ≤ s0 4 0) ∧ (LOW (s0 5) (sZ 5) ((200 * s0 7 0) + s0 24 0)) ∧ (s0 24 0 ≤ sZ 24 0 ∧ sZ 24 0 ≤ sZ 16 0) ∧ (rZ = 1 → RDY (sZ 5) (sZ 21) (200 * s0 7 0) (s0 24 0) (sZ 24 0) 0 1) := by
    intro n243; induction n243 with
    | zero =>
      intro v239 v240 s241 hq hm hT
      exfalso
      obtain ⟨hq461, hq462, hf_s241, hm_s241, hq463, hq464, hq465, hq466, hq467, hq468, hq469, hq470, hq471⟩ := hq
      omega
    | succ n243 ih =>
      intro v239 v240 s241 hq hm hT
      obtain ⟨hq472, hq473, hf_s241, hm_s241, hq474, hq475, hq476, hq477, hq478, hq479, hq480, hq481, hq482⟩ := hq
      replace hT := hT.trans (t_X9_eRead_14_s  n243 v239 v240 s241)
      obtain ⟨r248, s249, hs249⟩ : ∃ rr ss, (f_X9_next  s241) = (rr, ss) := ⟨_, _, rfl⟩
      replace hT := gby hT hs249
      have hp250 := f_X9_next_p  s241  hm_s241 (by first | assumption | omega) (by first | assumption | omega) r248 s249 hs249
      obtain ⟨hfc_s249, hm_s249, hp251, hp252, hp253, hp254, hp255⟩ := hp250
      have hf_s249 : fr [5, 16, 17, 18, 19, 21, 22, 23, 24] s0 s249 := hf_s241.call (by decide) hfc_s249
      have htf5_s249 : s249 5 = s241 5 := hfc_s249 5 (by decide)
      have htf21_s249 : s249 21 = s241 21 := hfc_s249 21 (by decide)
      have ht256 : s249 4 0 = s241 4 0 := by rw [hfc_s249 4 (by decide)]
      have ht257 : s249 7 0 = s241 7 0 := by rw [hfc_s249 7 (by decide)]
      have ht258 : s249 22 0 = s241 22 0 := by rw [hfc_s249 22 (by decide)]
      have ht259 : s249 23 0 = s241 23 0 := by rw [hfc_s249 23 (by decide)]
      have ht260 : s249 24 0 = s241 24 0 := by rw [hfc_s249 24 (by decide)]
      by_cases h261 : v239 = 0
      · replace hT := hT.trans (if_pos h261)
        have hr262 := (hm_s249 18 0).1 rfl
        by_cases h263 : (s249 18 0) = 59
        · replace hT := hT.trans (if_pos h263)
          obtain ⟨r265, s266, hs266⟩ : ∃ rr ss, (f_X9_unwinds 1 s249) = (rr, ss) := ⟨_, _, rfl⟩
          replace hT := gby hT hs266
          have hp267 := f_X9_unwinds_p 1 s249 (by omega) hm_s249 (by first | assumption | omega) (by first | assumption | omega) (by first | assumption | omega) (by first | assumption | omega) r265 s266 hs266
          obtain ⟨hfc_s266, hm_s266, hp268, hp269, hp270, hp271, hp272, hp273⟩ := hp267
          have hf_s266 : fr [5, 16, 17, 18, 19, 21, 22, 23, 24] s0 s266 := hf_s249.call (by decide) hfc_s266
          have htf21_s266 : s266 21 = s241 21 := hfc_s266 21 (by decide) |>.trans htf21_s249
          have ht274 : s266 4 0 = s249 4 0 := by rw [hfc_s266 4 (by decide)]
          have ht275 : s266 7 0 = s249 7 0 := by rw [hfc_s266 7 (by decide)]
          have ht276 : s266 16 0 = s249 16 0 := by rw [hfc_s266 16 (by decide)]
          have ht277 : s266 17 0 = s249 17 0 := by rw [hfc_s266 17 (by decide)]
          have ht278 : s266 18 0 = s249 18 0 := by rw [hfc_s266 18 (by decide)]
          have ht279 : s266 19 0 = s249 19 0 := by rw [hfc_s266 19 (by decide)]
          have hr280 := (hm_s266 22 0).1 rfl
          by_cases h281 : (s266 22 0) = 0
          · replace hT := hT.trans (if_pos h281)
            obtain ⟨rfl, rfl⟩ := Prod.mk.inj (hT.symm.trans hres)
            exact ⟨hf_s266, hm_s266, (by first | exact Or.inl rfl | exact Or.inr rfl | omega), (by first | assumption | omega), (by first | assumption | exact LOW_e (LOW_0 _ _) (by assumption) | exact LOW_c (by assumption) (by assumption) (by assumption) (by assumption) (by assumption) (by omega) (by omega) | exact LOW_n (by assumption) (by assumption) (by assumption) (by assumption) (by omega) (by omega) | exact LOW_t (by assumption) (by assumption) (by assumption) (by omega) | exact LOW_u (by assumption) (by assumption) (by assumption) (by omega) | exact LOW_e (by assumption) (by assumption)), (by first | assumption | omega), (by first | (intro h; omega) | (intro hz; exact E_end (by assumption) (by assumption) (by assumption) (by assumption) (by assumption) (by omega) (by omega) (by omega) (by omega) (by omega)))⟩
          · replace hT := hT.trans (if_neg h281)
            obtain ⟨rfl, rfl⟩ := Prod.mk.inj (hT.symm.trans hres)
            exact ⟨hf_s266, hm_s266, (by first | exact Or.inl rfl | exact Or.inr rfl | omega), (by first | assumption | omega), (by first | assumption | exact LOW_e (LOW_0 _ _) (by assumption) | exact LOW_c (by assumption) (by assumption) (by assumption) (by assumption) (by assumption) (by omega) (by omega) | exact LOW_n (by assumption) (by assumption) (by assumption) (by assumption) (by omega) (by omega) | exact LOW_t (by assumption) (by assumption) (by assumption) (by omega) | exact LOW_u (by assumption) (by assumption) (by assumption) (by omega) | exact LOW_e (by assumption) (by assumption)), (by first | assumption | omega), (by first | (intro h; omega) | (intro hz; exact E_end (by assumption) (by assumption) (by assumption) (by assumption) (by assumption) (by omega) (by omega) (by omega) (by omega) (by omega)))⟩
        · replace hT := hT.trans (if_neg h263)
          have hr282 := (hm_s249 18 0).1 rfl
          by_cases h283 : (s249 18 0) = 41
          · replace hT := hT.trans (if_pos h283)
            obtain ⟨r285, s286, hs286⟩ : ∃ rr ss, (f_X9_unwinds 1 s249) = (rr, ss) := ⟨_, _, rfl⟩
            replace hT := gby hT hs286
            have hp287 := f_X9_unwinds_p 1 s249 (by omega) hm_s249 (by first | assumption | omega) (by first | assumption | omega) (by first | assumption | omega) (by first | assumption | omega) r285 s286 hs286
            obtain ⟨hfc_s286, hm_s286, hp288, hp289, hp290, hp291, hp292, hp293⟩ := hp287
            have hf_s286 : fr [5, 16, 17, 18, 19, 21, 22, 23, 24] s0 s286 := hf_s249.call (by decide) hfc_s286
            have htf21_s286 : s286 21 = s241 21 := hfc_s286 21 (by decide) |>.trans htf21_s249
            have ht294 : s286 4 0 = s249 4 0 := by rw [hfc_s286 4 (by decide)]
            have ht295 : s286 7 0 = s249 7 0 := by rw [hfc_s286 7 (by decide)]
            have ht296 : s286 16 0 = s249 16 0 := by rw [hfc_s286 16 (by decide)]
            have ht297 : s286 17 0 = s249 17 0 := by rw [hfc_s286 17 (by decide)]
            have ht298 : s286 18 0 = s249 18 0 := by rw [hfc_s286 18 (by decide)]
            have ht299 : s286 19 0 = s249 19 0 := by rw [hfc_s286 19 (by decide)]
            have hr300 := (hm_s286 22 0).1 rfl
            by_cases h301 : (s286 22 0) = 0
            · replace hT := hT.trans (if_pos h301)
              obtain ⟨rfl, rfl⟩ := Prod.mk.inj (hT.symm.trans hres)
              exact ⟨hf_s286, hm_s286, (by first | exact Or.inl rfl | exact Or.inr rfl | omega), (by first | assumption | omega), (by first | assumption | exact LOW_e (LOW_0 _ _) (by assumption) | exact LOW_c (by assumption) (by assumption) (by assumption) (by assumption) (by assumption) (by omega) (by omega) | exact LOW_n (by assumption) (by assumption) (by assumption) (by assumption) (by omega) (by omega) | exact LOW_t (by assumption) (by assumption) (by assumption) (by omega) | exact LOW_u (by assumption) (by assumption) (by assumption) (by omega) | exact LOW_e (by assumption) (by assumption)), (by first | assumption | omega), (by first | (intro h; omega) | (intro hz; exact E_end (by assumption) (by assumption) (by assumption) (by assumption) (by assumption) (by omega) (by omega) (by omega) (by omega) (by omega)))⟩
            · replace hT := hT.trans (if_neg h301)
              have hr302 := (hm_s286 22 0).1 rfl
              obtain ⟨s303, hs303, hT⟩ := glx hT
              have hf_s303 : fr [5, 16, 17, 18, 19, 21, 22, 23, 24] s0 s303 := hs303 ▸ hf_s286.set (by decide)
              have hm_s303 : gMR lgM s303 := hs303 ▸ hm_s286.set32 rfl (by omega)
              have ht304 : s303 4 0 = s286 4 0 := by rw [hs303]; exact mset_ne _ _ _ _ _ (by decide)
              have ht305 : s303 7 0 = s286 7 0 := by rw [hs303]; exact mset_ne _ _ _ _ _ (by decide)
              have ht306 : s303 16 0 = s286 16 0 := by rw [hs303]; exact mset_ne _ _ _ _ _ (by decide)
              have ht307 : s303 17 0 = s286 17 0 := by rw [hs303]; exact mset_ne _ _ _ _ _ (by decide)
              have ht308 : s303 18 0 = s286 18 0 := by rw [hs303]; exact mset_ne _ _ _ _ _ (by decide)
              have ht309 : s303 19 0 = s286 19 0 := by rw [hs303]; exact mset_ne _ _ _ _ _ (by decide)
              have ht310 : s303 22 0 = ((s286 22 0) - 1) := by rw [hs303]; exact mset_eq _ _ _ _
              have ht311 : s303 23 0 = s286 23 0 := by rw [hs303]; exact mset_ne _ _ _ _ _ (by decide)
              have ht312 : s303 24 0 = s286 24 0 := by rw [hs303]; exact mset_ne _ _ _ _ _ (by decide)
              have htf5_s303 : s303 5 = s286 5 := (by rw [hs303]; exact mset_nf (by decide))
              have htf21_s303 : s303 21 = s241 21 := ((by rw [hs303]; exact mset_nf (by decide)) : s303 21 = s286 21).trans htf21_s286
              have hr313 := (hm_s303 23 0).1 rfl
              obtain ⟨s314, hs314, hT⟩ := glx hT
              have hf_s314 : fr [5, 16, 17, 18, 19, 21, 22, 23, 24] s0 s314 := hs314 ▸ hf_s303.set (by decide)
              have hm_s314 : gMR lgM s314 := hs314 ▸ hm_s303.set32 rfl (by omega)
              have ht315 : s314 4 0 = s303 4 0 := by rw [hs314]; exact mset_ne _ _ _ _ _ (by decide)
              have ht316 : s314 7 0 = s303 7 0 := by rw [hs314]; exact mset_ne _ _ _ _ _ (by decide)
              have ht317 : s314 16 0 = s303 16 0 := by rw [hs314]; exact mset_ne _ _ _ _ _ (by decide)
              have ht318 : s314 17 0 = s303 17 0 := by rw [hs314]; exact mset_ne _ _ _ _ _ (by decide)
              have ht319 : s314 18 0 = s303 18 0 := by rw [hs314]; exact mset_ne _ _ _ _ _ (by decide)
              have ht320 : s314 19 0 = s303 19 0 := by rw [hs314]; exact mset_ne _ _ _ _ _ (by decide)
              have ht321 : s314 22 0 = s303 22 0 := by rw [hs314]; exact mset_ne _ _ _ _ _ (by decide)
              have ht322 : s314 23 0 = ((s303 23 0) - 1) := by rw [hs314]; exact mset_eq _ _ _ _
              have ht323 : s314 24 0 = s303 24 0 := by rw [hs314]; exact mset_ne _ _ _ _ _ (by decide)
              have htf5_s314 : s314 5 = s286 5 := ((by rw [hs314]; exact mset_nf (by decide)) : s314 5 = s303 5).trans htf5_s303
              have htf21_s314 : s314 21 = s241 21 := ((by rw [hs314]; exact mset_nf (by decide)) : s314 21 = s303 21).trans htf21_s303
              obtain ⟨r325, s326, hs326⟩ : ∃ rr ss, (f_X9_unwinds 7 s314) = (rr, ss) := ⟨_, _, rfl⟩
              replace hT := gby hT hs326
              have hp327 := f_X9_unwinds_p 7 s314 (by omega) hm_s314 (by first | assumption | omega) (by first | assumption | omega) (by first | assumption | omega) (by first | assumption | omega) r325 s326 hs326
              obtain ⟨hfc_s326, hm_s326, hp328, hp329, hp330, hp331, hp332, hp333⟩ := hp327
              have hf_s326 : fr [5, 16, 17, 18, 19, 21, 22, 23, 24] s0 s326 := hf_s314.call (by decide) hfc_s326
              have htf21_s326 : s326 21 = s241 21 := hfc_s326 21 (by decide) |>.trans htf21_s314
              have ht334 : s326 4 0 = s314 4 0 := by rw [hfc_s326 4 (by decide)]
              have ht335 : s326 7 0 = s314 7 0 := by rw [hfc_s326 7 (by decide)]
              have ht336 : s326 16 0 = s314 16 0 := by rw [hfc_s326 16 (by decide)]
              have ht337 : s326 17 0 = s314 17 0 := by rw [hfc_s326 17 (by decide)]
              have ht338 : s326 18 0 = s314 18 0 := by rw [hfc_s326 18 (by decide)]
              have ht339 : s326 19 0 = s314 19 0 := by rw [hfc_s326 19 (by decide)]
              exact ih v239 v240 s326 ⟨(by omega), (by omega), hf_s326, hm_s326, (by first | assumption | omega), (by first | assumption | omega), (by first | assumption | omega), (by first | assumption | omega), (by first | assumption | omega), (by first | assumption | omega), (by first | assumption | omega), (by first | assumption | exact LOW_e (LOW_0 _ _) (by assumption) | exact LOW_c (by assumption) (by assumption) (by assumption) (by assumption) (by assumption) (by omega) (by omega) | exact LOW_n (by assumption) (by assumption) (by assumption) (by assumption) (by omega) (by omega) | exact LOW_t (by assumption) (by assumption) (by assumption) (by omega) | exact LOW_u (by assumption) (by assumption) (by assumption) (by omega) | exact LOW_e (by assumption) (by assumption)), (by first | assumption | exact RDY_0 _ _ (by omega) (by omega) (by omega) (by omega) | exact E_num (by assumption) (by assumption) (by assumption) (by assumption) (by assumption) (by assumption) (by omega) (by omega) (by omega) (by omega) (by omega) (by omega) (by omega) | exact E_open (by assumption) (by omega) (by assumption) (by assumption) (by assumption) (by omega) (by omega) (by omega) (by omega) (by omega) | exact E_close (by assumption) (by assumption) (by assumption) (by assumption) (by assumption) (by assumption) (by assumption) (by assumption) (by assumption) (by assumption) (by omega) (by omega) (by omega) (by omega) (by omega) (by omega) (by omega) (by omega) (by omega) | exact E_sign (by assumption) (by omega) (by assumption) (by assumption) (by assumption) (by omega) (by omega) (by omega) (by omega) (by omega))⟩ (by omega) hT
          · replace hT := hT.trans (if_neg h283)
            have hp341 := f_X9_signOf_p  s249  hm_s249 
            by_cases h342 : (f_X9_signOf  s249) = (-1)
            · replace hT := hT.trans (if_pos h342)
              obtain ⟨rfl, rfl⟩ := Prod.mk.inj (hT.symm.trans hres)
              exact ⟨hf_s249, hm_s249, (by first | exact Or.inl rfl | exact Or.inr rfl | omega), (by first | assumption | omega), (by first | assumption | exact LOW_e (LOW_0 _ _) (by assumption) | exact LOW_c (by assumption) (by assumption) (by assumption) (by assumption) (by assumption) (by omega) (by omega) | exact LOW_n (by assumption) (by assumption) (by assumption) (by assumption) (by omega) (by omega) | exact LOW_t (by assumption) (by assumption) (by assumption) (by omega) | exact LOW_u (by assumption) (by assumption) (by assumption) (by omega) | exact LOW_e (by assumption) (by assumption)), (by first | assumption | omega), (by first | (intro h; omega) | (intro hz; exact E_end (by assumption) (by assumption) (by assumption) (by assumption) (by assumption) (by omega) (by omega) (by omega) (by omega) (by omega)))⟩
            · replace hT := hT.trans (if_neg h342)
              obtain ⟨r344, s345, hs345⟩ : ∃ rr ss, (f_X9_between (f_X9_signOf  s249) s249) = (rr, ss) := ⟨_, _, rfl⟩
              replace hT := gby hT hs345
              have hp346 := f_X9_between_p (f_X9_signOf  s249) s249 (by omega) hm_s249 (by first | assumption | omega) (by first | assumption | omega) (by first | assumption | omega) (by first | assumption | omega) r344 s345 hs345
              obtain ⟨hfc_s345, hm_s345, hp347, hp348, hp349, hp350, hp351⟩ := hp346
              have hf_s345 : fr [5, 16, 17, 18, 19, 21, 22, 23, 24] s0 s345 := hf_s249.call (by decide) hfc_s345
              have ht352 : s345 4 0 = s249 4 0 := by rw [hfc_s345 4 (by decide)]
              have ht353 : s345 7 0 = s249 7 0 := by rw [hfc_s345 7 (by decide)]
              have ht354 : s345 16 0 = s249 16 0 := by rw [hfc_s345 16 (by decide)]
              have ht355 : s345 17 0 = s249 17 0 := by rw [hfc_s345 17 (by decide)]
              have ht356 : s345 18 0 = s249 18 0 := by rw [hfc_s345 18 (by decide)]
              have ht357 : s345 19 0 = s249 19 0 := by rw [hfc_s345 19 (by decide)]
              by_cases h358 : r344 = 0
              · replace hT := hT.trans (if_pos h358)
                obtain ⟨rfl, rfl⟩ := Prod.mk.inj (hT.symm.trans hres)
                exact ⟨hf_s345, hm_s345, (by first | exact Or.inl rfl | exact Or.inr rfl | omega), (by first | assumption | omega), (by first | assumption | exact LOW_e (LOW_0 _ _) (by assumption) | exact LOW_c (by assumption) (by assumption) (by assumption) (by assumption) (by assumption) (by omega) (by omega) | exact LOW_n (by assumption) (by assumption) (by assumption) (by assumption) (by omega) (by omega) | exact LOW_t (by assumption) (by assumption) (by assumption) (by omega) | exact LOW_u (by assumption) (by assumption) (by assumption) (by omega) | exact LOW_e (by assumption) (by assumption)), (by first | assumption | omega), (by first | (intro h; omega) | (intro hz; exact E_end (by assumption) (by assumption) (by assumption) (by assumption) (by assumption) (by omega) (by omega) (by omega) (by omega) (by omega)))⟩
              · replace hT := hT.trans (if_neg h358)
                obtain ⟨z364, hz364, hT⟩ := gl1x hT
                have j360 : ∀ (v361 : Int), ((in32 v361) ∧ (0 ≤ v361 ∧ v361 ≤ 1)) → z364 = v361 → (fr [5, 16, 17, 18, 19, 21, 22, 23, 24] s0 sZ) ∧ (gMR lgM sZ) ∧ ((rZ = 0 ∨ rZ = 1)) ∧ (s0 16 0 ≤ sZ 17 0 ∧ sZ 17 0 ≤ sZ 16 0 ∧ sZ 16 0 ≤ s0 4 0) ∧ (LOW (s0 5) (sZ 5) ((200 * s0 7 0) + s0 24 0)) ∧ (s0 24 0 ≤ sZ 24 0 ∧ sZ 24 0 ≤ sZ 16 0) ∧ (rZ = 1 → RDY (sZ 5) (sZ 21) (200 * s0 7 0) (s0 24 0) (sZ 24 0) 0 1) := by
                  intro v361 hq hz
                  obtain ⟨hq362, hq363⟩ := hq
                  replace hT := gl1y hT hz
                  exact ih 1 v361 s345 ⟨(by omega), (by omega), hf_s345, hm_s345, (by first | assumption | omega), (by first | assumption | omega), (by first | assumption | omega), (by first | assumption | omega), (by first | assumption | omega), (by first | assumption | omega), (by first | assumption | omega), (by first | assumption | exact LOW_e (LOW_0 _ _) (by assumption) | exact LOW_c (by assumption) (by assumption) (by assumption) (by assumption) (by assumption) (by omega) (by omega) | exact LOW_n (by assumption) (by assumption) (by assumption) (by assumption) (by omega) (by omega) | exact LOW_t (by assumption) (by assumption) (by assumption) (by omega) | exact LOW_u (by assumption) (by assumption) (by assumption) (by omega) | exact LOW_e (by assumption) (by assumption)), (by first | assumption | exact RDY_0 _ _ (by omega) (by omega) (by omega) (by omega) | exact E_num (by assumption) (by assumption) (by assumption) (by assumption) (by assumption) (by assumption) (by omega) (by omega) (by omega) (by omega) (by omega) (by omega) (by omega) | exact E_open (by assumption) (by omega) (by assumption) (by assumption) (by assumption) (by omega) (by omega) (by omega) (by omega) (by omega) | exact E_close (by assumption) (by assumption) (by assumption) (by assumption) (by assumption) (by assumption) (by assumption) (by assumption) (by assumption) (by assumption) (by omega) (by omega) (by omega) (by omega) (by omega) (by omega) (by omega) (by omega) (by omega) | exact E_sign (by assumption) (by omega) (by assumption) (by assumption) (by assumption) (by omega) (by omega) (by omega) (by omega) (by omega))⟩ (by omega) hT
                replace hT := hz364
                by_cases h359 : 12 < (f_X9_signOf  s249)
                · replace hT := hT.trans (if_pos h359)
                  exact j360 0 ⟨(by omega), (by first | assumption | omega)⟩ hT
                · replace hT := hT.trans (if_neg h359)
                  exact j360 1 ⟨(by omega), (by first | assumption | omega)⟩ hT
      · replace hT := hT.trans (if_neg h261)
        have hr365 := (hm_s249 18 0).1 rfl
        obtain ⟨j367c, hj367c, hT⟩ := gjx hT
        have j367 : ((s249 18 0 = 1 ∨ s249 18 0 = 2)) → (f_X9_eRead s0) = j367c  → (fr [5, 16, 17, 18, 19, 21, 22, 23, 24] s0 sZ) ∧ (gMR lgM sZ) ∧ ((rZ = 0 ∨ rZ = 1)) ∧ (s0 16 0 ≤ sZ 17 0 ∧ sZ 17 0 ≤ sZ 16 0 ∧ sZ 16 0 ≤ s0 4 0) ∧ (LOW (s0 5) (sZ 5) ((200 * s0 7 0) + s0 24 0)) ∧ (s0 24 0 ≤ sZ 24 0 ∧ sZ 24 0 ≤ sZ 16 0) ∧ (rZ = 1 → RDY (sZ 5) (sZ 21) (200 * s0 7 0) (s0 24 0) (sZ 24 0) 0 1) := by
          intro  hq hT
          have hq408 := hq
          rw [hj367c] at hT
          have hr368 := (hm_s249 18 0).1 rfl
          obtain ⟨z405, hz405, hT⟩ := gl1x hT
          have j370 : ∀ (v371 : Int), ((in32 v371) ∧ ((0 ≤ v371 ∧ v371 ≤ 5) ∨ (100000 ≤ v371 ∧ v371 ≤ 109999))) → z405 = v371 → (fr [5, 16, 17, 18, 19, 21, 22, 23, 24] s0 sZ) ∧ (gMR lgM sZ) ∧ ((rZ = 0 ∨ rZ = 1)) ∧ (s0 16 0 ≤ sZ 17 0 ∧ sZ 17 0 ≤ sZ 16 0 ∧ sZ 16 0 ≤ s0 4 0) ∧ (LOW (s0 5) (sZ 5) ((200 * s0 7 0) + s0 24 0)) ∧ (s0 24 0 ≤ sZ 24 0 ∧ sZ 24 0 ≤ sZ 16 0) ∧ (rZ = 1 → RDY (sZ 5) (sZ 21) (200 * s0 7 0) (s0 24 0) (sZ 24 0) 0 1) := by
            intro v371 hq hz
            obtain ⟨hq403, hq404⟩ := hq
            replace hT := gl1y hT hz
            obtain ⟨r373, s374, hs374⟩ : ∃ rr ss, (f_X9_puts v371 s249) = (rr, ss) := ⟨_, _, rfl⟩
            replace hT := gby hT hs374
            have hp375 := f_X9_puts_p v371 s249 (by omega) hm_s249 (by first | assumption | omega) (by first | assumption | omega) r373 s374 hs374
            obtain ⟨hfc_s374, hm_s374, hp376, hp377, hp378⟩ := hp375
            have hf_s374 : fr [5, 16, 17, 18, 19, 21, 22, 23, 24] s0 s374 := hf_s249.call (by decide) hfc_s374
            have htf21_s374 : s374 21 = s241 21 := hfc_s374 21 (by decide) |>.trans htf21_s249
            have ht379 : s374 4 0 = s249 4 0 := by rw [hfc_s374 4 (by decide)]
            have ht380 : s374 7 0 = s249 7 0 := by rw [hfc_s374 7 (by decide)]
            have ht381 : s374 16 0 = s249 16 0 := by rw [hfc_s374 16 (by decide)]
            have ht382 : s374 17 0 = s249 17 0 := by rw [hfc_s374 17 (by decide)]
            have ht383 : s374 18 0 = s249 18 0 := by rw [hfc_s374 18 (by decide)]
            have ht384 : s374 19 0 = s249 19 0 := by rw [hfc_s374 19 (by decide)]
            have ht385 : s374 22 0 = s249 22 0 := by rw [hfc_s374 22 (by decide)]
            have ht386 : s374 23 0 = s249 23 0 := by rw [hfc_s374 23 (by decide)]
            obtain ⟨r388, s389, hs389⟩ : ∃ rr ss, (f_X9_unwinds 7 s374) = (rr, ss) := ⟨_, _, rfl⟩
            replace hT := gby hT hs389
            have hp390 := f_X9_unwinds_p 7 s374 (by omega) hm_s374 (by first | assumption | omega) (by first | assumption | omega) (by first | assumption | omega) (by first | assumption | omega) r388 s389 hs389
            obtain ⟨hfc_s389, hm_s389, hp391, hp392, hp393, hp394, hp395, hp396⟩ := hp390
            have hf_s389 : fr [5, 16, 17, 18, 19, 21, 22, 23, 24] s0 s389 := hf_s374.call (by decide) hfc_s389
            have htf21_s389 : s389 21 = s241 21 := hfc_s389 21 (by decide) |>.trans htf21_s374
            have ht397 : s389 4 0 = s374 4 0 := by rw [hfc_s389 4 (by decide)]
            have ht398 : s389 7 0 = s374 7 0 := by rw [hfc_s389 7 (by decide)]
            have ht399 : s389 16 0 = s374 16 0 := by rw [hfc_s389 16 (by decide)]
            have ht400 : s389 17 0 = s374 17 0 := by rw [hfc_s389 17 (by decide)]
            have ht401 : s389 18 0 = s374 18 0 := by rw [hfc_s389 18 (by decide)]
            have ht402 : s389 19 0 = s374 19 0 := by rw [hfc_s389 19 (by decide)]
            exact ih 0 v240 s389 ⟨(by omega), (by omega), hf_s389, hm_s389, (by first | assumption | omega), (by first | assumption | omega), (by first | assumption | omega), (by first | assumption | omega), (by first | assumption | omega), (by first | assumption | omega), (by first | assumption | omega), (by first | assumption | exact LOW_e (LOW_0 _ _) (by assumption) | exact LOW_c (by assumption) (by assumption) (by assumption) (by assumption) (by assumption) (by omega) (by omega) | exact LOW_n (by assumption) (by assumption) (by assumption) (by assumption) (by omega) (by omega) | exact LOW_t (by assumption) (by assumption) (by assumption) (by omega) | exact LOW_u (by assumption) (by assumption) (by assumption) (by omega) | exact LOW_e (by assumption) (by assumption)), (by first | assumption | exact RDY_0 _ _ (by omega) (by omega) (by omega) (by omega) | exact E_num (by assumption) (by assumption) (by assumption) (by assumption) (by assumption) (by assumption) (by omega) (by omega) (by omega) (by omega) (by omega) (by omega) (by omega) | exact E_open (by assumption) (by omega) (by assumption) (by assumption) (by assumption) (by omega) (by omega) (by omega) (by omega) (by omega) | exact E_close (by assumption) (by assumption) (by assumption) (by assumption) (by assumption) (by assumption) (by assumption) (by assumption) (by assumption) (by assumption) (by omega) (by omega) (by omega) (by omega) (by omega) (by omega) (by omega) (by omega) (by omega) | exact E_sign (by assumption) (by omega) (by assumption) (by assumption) (by assumption) (by omega) (by omega) (by omega) (by omega) (by omega))⟩ (by omega) hT
          replace hT := hz405
          by_cases h369 : (s249 18 0) = 1
          · replace hT := hT.trans (if_pos h369)
            have hr406 := (hm_s249 19 0).1 rfl
            exact j370 (100000 + (s249 19 0)) ⟨(by omega), (by first | assumption | omega)⟩ hT
          · replace hT := hT.trans (if_neg h369)
            have hr407 := (hm_s249 19 0).1 rfl
            exact j370 (s249 19 0) ⟨(by omega), (by first | assumption | omega)⟩ hT
        by_cases h366 : (s249 18 0) = 1
        · replace hT := hT.trans (if_pos h366)
          exact j367  (by first | assumption | omega) hT
        · replace hT := hT.trans (if_neg h366)
          have hr409 := (hm_s249 18 0).1 rfl
          by_cases h410 : (s249 18 0) = 2
          · replace hT := hT.trans (if_pos h410)
            exact j367  (by first | assumption | omega) hT
          · replace hT := hT.trans (if_neg h410)
            have hr411 := (hm_s249 18 0).1 rfl
            obtain ⟨j413c, hj413c, hT⟩ := gjx hT
            have j413 : (True) → (f_X9_eRead s0) = j413c  → (fr [5, 16, 17, 18, 19, 21, 22, 23, 24] s0 sZ) ∧ (gMR lgM sZ) ∧ ((rZ = 0 ∨ rZ = 1)) ∧ (s0 16 0 ≤ sZ 17 0 ∧ sZ 17 0 ≤ sZ 16 0 ∧ sZ 16 0 ≤ s0 4 0) ∧ (LOW (s0 5) (sZ 5) ((200 * s0 7 0) + s0 24 0)) ∧ (s0 24 0 ≤ sZ 24 0 ∧ sZ 24 0 ≤ sZ 16 0) ∧ (rZ = 1 → RDY (sZ 5) (sZ 21) (200 * s0 7 0) (s0 24 0) (sZ 24 0) 0 1) := by
              intro  hq hT
              rw [hj413c] at hT
              have hr414 := (hm_s249 18 0).1 rfl
              by_cases h415 : (s249 18 0) = 45
              · replace hT := hT.trans (if_pos h415)
                obtain ⟨r417, s418, hs418⟩ : ∃ rr ss, (f_X9_opensOne 19 s249) = (rr, ss) := ⟨_, _, rfl⟩
                replace hT := gby hT hs418
                have hp419 := f_X9_opensOne_p 19 s249 (by omega) hm_s249 (by first | assumption | omega) (by first | assumption | omega) r417 s418 hs418
                obtain ⟨hfc_s418, hm_s418, hp420, hp421⟩ := hp419
                have hf_s418 : fr [5, 16, 17, 18, 19, 21, 22, 23, 24] s0 s418 := hf_s249.call (by decide) hfc_s418
                have htf5_s418 : s418 5 = s241 5 := hfc_s418 5 (by decide) |>.trans htf5_s249
                have ht422 : s418 4 0 = s249 4 0 := by rw [hfc_s418 4 (by decide)]
                have ht423 : s418 7 0 = s249 7 0 := by rw [hfc_s418 7 (by decide)]
                have ht424 : s418 16 0 = s249 16 0 := by rw [hfc_s418 16 (by decide)]
                have ht425 : s418 17 0 = s249 17 0 := by rw [hfc_s418 17 (by decide)]
                have ht426 : s418 18 0 = s249 18 0 := by rw [hfc_s418 18 (by decide)]
                have ht427 : s418 19 0 = s249 19 0 := by rw [hfc_s418 19 (by decide)]
                have ht428 : s418 24 0 = s249 24 0 := by rw [hfc_s418 24 (by decide)]
                by_cases h429 : r417 = 0
                · replace hT := hT.trans (if_pos h429)
                  obtain ⟨rfl, rfl⟩ := Prod.mk.inj (hT.symm.trans hres)
                  exact ⟨hf_s418, hm_s418, (by first | exact Or.inl rfl | exact Or.inr rfl | omega), (by first | assumption | omega), (by first | assumption | exact LOW_e (LOW_0 _ _) (by assumption) | exact LOW_c (by assumption) (by assumption) (by assumption) (by assumption) (by assumption) (by omega) (by omega) | exact LOW_n (by assumption) (by assumption) (by assumption) (by assumption) (by omega) (by omega) | exact LOW_t (by assumption) (by assumption) (by assumption) (by omega) | exact LOW_u (by assumption) (by assumption) (by assumption) (by omega) | exact LOW_e (by assumption) (by assumption)), (by first | assumption | omega), (by first | (intro h; omega) | (intro hz; exact E_end (by assumption) (by assumption) (by assumption) (by assumption) (by assumption) (by omega) (by omega) (by omega) (by omega) (by omega)))⟩
                · replace hT := hT.trans (if_neg h429)
                  exact ih v239 0 s418 ⟨(by omega), (by omega), hf_s418, hm_s418, (by first | assumption | omega), (by first | assumption | omega), (by first | assumption | omega), (by first | assumption | omega), (by first | assumption | omega), (by first | assumption | omega), (by first | assumption | omega), (by first | assumption | exact LOW_e (LOW_0 _ _) (by assumption) | exact LOW_c (by assumption) (by assumption) (by assumption) (by assumption) (by assumption) (by omega) (by omega) | exact LOW_n (by assumption) (by assumption) (by assumption) (by assumption) (by omega) (by omega) | exact LOW_t (by assumption) (by assumption) (by assumption) (by omega) | exact LOW_u (by assumption) (by assumption) (by assumption) (by omega) | exact LOW_e (by assumption) (by assumption)), (by first | assumption | exact RDY_0 _ _ (by omega) (by omega) (by omega) (by omega) | exact E_num (by assumption) (by assumption) (by assumption) (by assumption) (by assumption) (by assumption) (by omega) (by omega) (by omega) (by omega) (by omega) (by omega) (by omega) | exact E_open (by assumption) (by omega) (by assumption) (by assumption) (by assumption) (by omega) (by omega) (by omega) (by omega) (by omega) | exact E_close (by assumption) (by assumption) (by assumption) (by assumption) (by assumption) (by assumption) (by assumption) (by assumption) (by assumption) (by assumption) (by omega) (by omega) (by omega) (by omega) (by omega) (by omega) (by omega) (by omega) (by omega) | exact E_sign (by assumption) (by omega) (by assumption) (by assumption) (by assumption) (by omega) (by omega) (by omega) (by omega) (by omega))⟩ (by omega) hT
              · replace hT := hT.trans (if_neg h415)
                have hr430 := (hm_s249 18 0).1 rfl
                by_cases h431 : (s249 18 0) = 40
                · replace hT := hT.trans (if_pos h431)
                  obtain ⟨r433, s434, hs434⟩ : ∃ rr ss, (f_X9_opensOne 0 s249) = (rr, ss) := ⟨_, _, rfl⟩
                  replace hT := gby hT hs434
                  have hp435 := f_X9_opensOne_p 0 s249 (by omega) hm_s249 (by first | assumption | omega) (by first | assumption | omega) r433 s434 hs434
                  obtain ⟨hfc_s434, hm_s434, hp436, hp437⟩ := hp435
                  have hf_s434 : fr [5, 16, 17, 18, 19, 21, 22, 23, 24] s0 s434 := hf_s249.call (by decide) hfc_s434
                  have htf5_s434 : s434 5 = s241 5 := hfc_s434 5 (by decide) |>.trans htf5_s249
                  have ht438 : s434 4 0 = s249 4 0 := by rw [hfc_s434 4 (by decide)]
                  have ht439 : s434 7 0 = s249 7 0 := by rw [hfc_s434 7 (by decide)]
                  have ht440 : s434 16 0 = s249 16 0 := by rw [hfc_s434 16 (by decide)]
                  have ht441 : s434 17 0 = s249 17 0 := by rw [hfc_s434 17 (by decide)]
                  have ht442 : s434 18 0 = s249 18 0 := by rw [hfc_s434 18 (by decide)]
                  have ht443 : s434 19 0 = s249 19 0 := by rw [hfc_s434 19 (by decide)]
                  have ht444 : s434 24 0 = s249 24 0 := by rw [hfc_s434 24 (by decide)]
                  by_cases h445 : r433 = 0
                  · replace hT := hT.trans (if_pos h445)
                    obtain ⟨rfl, rfl⟩ := Prod.mk.inj (hT.symm.trans hres)
                    exact ⟨hf_s434, hm_s434, (by first | exact Or.inl rfl | exact Or.inr rfl | omega), (by first | assumption | omega), (by first | assumption | exact LOW_e (LOW_0 _ _) (by assumption) | exact LOW_c (by assumption) (by assumption) (by assumption) (by assumption) (by assumption) (by omega) (by omega) | exact LOW_n (by assumption) (by assumption) (by assumption) (by assumption) (by omega) (by omega) | exact LOW_t (by assumption) (by assumption) (by assumption) (by omega) | exact LOW_u (by assumption) (by assumption) (by assumption) (by omega) | exact LOW_e (by assumption) (by assumption)), (by first | assumption | omega), (by first | (intro h; omega) | (intro hz; exact E_end (by assumption) (by assumption) (by assumption) (by assumption) (by assumption) (by omega) (by omega) (by omega) (by omega) (by omega)))⟩
                  · replace hT := hT.trans (if_neg h445)
                    exact ih v239 1 s434 ⟨(by omega), (by omega), hf_s434, hm_s434, (by first | assumption | omega), (by first | assumption | omega), (by first | assumption | omega), (by first | assumption | omega), (by first | assumption | omega), (by first | assumption | omega), (by first | assumption | omega), (by first | assumption | exact LOW_e (LOW_0 _ _) (by assumption) | exact LOW_c (by assumption) (by assumption) (by assumption) (by assumption) (by assumption) (by omega) (by omega) | exact LOW_n (by assumption) (by assumption) (by assumption) (by assumption) (by omega) (by omega) | exact LOW_t (by assumption) (by assumption) (by assumption) (by omega) | exact LOW_u (by assumption) (by assumption) (by assumption) (by omega) | exact LOW_e (by assumption) (by assumption)), (by first | assumption | exact RDY_0 _ _ (by omega) (by omega) (by omega) (by omega) | exact E_num (by assumption) (by assumption) (by assumption) (by assumption) (by assumption) (by assumption) (by omega) (by omega) (by omega) (by omega) (by omega) (by omega) (by omega) | exact E_open (by assumption) (by omega) (by assumption) (by assumption) (by assumption) (by omega) (by omega) (by omega) (by omega) (by omega) | exact E_close (by assumption) (by assumption) (by assumption) (by assumption) (by assumption) (by assumption) (by assumption) (by assumption) (by assumption) (by assumption) (by omega) (by omega) (by omega) (by omega) (by omega) (by omega) (by omega) (by omega) (by omega) | exact E_sign (by assumption) (by omega) (by assumption) (by assumption) (by assumption) (by omega) (by omega) (by omega) (by omega) (by omega))⟩ (by omega) hT
                · replace hT := hT.trans (if_neg h431)
                  obtain ⟨rfl, rfl⟩ := Prod.mk.inj (hT.symm.trans hres)
                  exact ⟨hf_s249, hm_s249, (by first | exact Or.inl rfl | exact Or.inr rfl | omega), (by first | assumption | omega), (by first | assumption | exact LOW_e (LOW_0 _ _) (by assumption) | exact LOW_c (by assumption) (by assumption) (by assumption) (by assumption) (by assumption) (by omega) (by omega) | exact LOW_n (by assumption) (by assumption) (by assumption) (by assumption) (by omega) (by omega) | exact LOW_t (by assumption) (by assumption) (by assumption) (by omega) | exact LOW_u (by assumption) (by assumption) (by assumption) (by omega) | exact LOW_e (by assumption) (by assumption)), (by first | assumption | omega), (by first | (intro h; omega) | (intro hz; exact E_end (by assumption) (by assumption) (by assumption) (by assumption) (by assumption) (by omega) (by omega) (by omega) (by omega) (by omega)))⟩
            by_cases h412 : (s249 18 0) = 6
            · replace hT := hT.trans (if_pos h412)
              by_cases h446 : v240 = 0
              · replace hT := hT.trans (if_pos h446)
                exact j413  trivial hT
              · replace hT := hT.trans (if_neg h446)
                obtain ⟨r448, s449, hs449⟩ : ∃ rr ss, (f_X9_opensOne 13 s249) = (rr, ss) := ⟨_, _, rfl⟩
                replace hT := gby hT hs449
                have hp450 := f_X9_opensOne_p 13 s249 (by omega) hm_s249 (by first | assumption | omega) (by first | assumption | omega) r448 s449 hs449
                obtain ⟨hfc_s449, hm_s449, hp451, hp452⟩ := hp450
                have hf_s449 : fr [5, 16, 17, 18, 19, 21, 22, 23, 24] s0 s449 := hf_s249.call (by decide) hfc_s449
                have htf5_s449 : s449 5 = s241 5 := hfc_s449 5 (by decide) |>.trans htf5_s249
                have ht453 : s449 4 0 = s249 4 0 := by rw [hfc_s449 4 (by decide)]
                have ht454 : s449 7 0 = s249 7 0 := by rw [hfc_s449 7 (by decide)]
                have ht455 : s449 16 0 = s249 16 0 := by rw [hfc_s449 16 (by decide)]
                have ht456 : s449 17 0 = s249 17 0 := by rw [hfc_s449 17 (by decide)]
                have ht457 : s449 18 0 = s249 18 0 := by rw [hfc_s449 18 (by decide)]
                have ht458 : s449 19 0 = s249 19 0 := by rw [hfc_s449 19 (by decide)]
                have ht459 : s449 24 0 = s249 24 0 := by rw [hfc_s449 24 (by decide)]
                by_cases h460 : r448 = 0
                · replace hT := hT.trans (if_pos h460)
                  obtain ⟨rfl, rfl⟩ := Prod.mk.inj (hT.symm.trans hres)
                  exact ⟨hf_s449, hm_s449, (by first | exact Or.inl rfl | exact Or.inr rfl | omega), (by first | assumption | omega), (by first | assumption | exact LOW_e (LOW_0 _ _) (by assumption) | exact LOW_c (by assumption) (by assumption) (by assumption) (by assumption) (by assumption) (by omega) (by omega) | exact LOW_n (by assumption) (by assumption) (by assumption) (by assumption) (by omega) (by omega) | exact LOW_t (by assumption) (by assumption) (by assumption) (by omega) | exact LOW_u (by assumption) (by assumption) (by assumption) (by omega) | exact LOW_e (by assumption) (by assumption)), (by first | assumption | omega), (by first | (intro h; omega) | (intro hz; exact E_end (by assumption) (by assumption) (by assumption) (by assumption) (by assumption) (by omega) (by omega) (by omega) (by omega) (by omega)))⟩
                · replace hT := hT.trans (if_neg h460)
                  exact ih v239 v240 s449 ⟨(by omega), (by omega), hf_s449, hm_s449, (by first | assumption | omega), (by first | assumption | omega), (by first | assumption | omega), (by first | assumption | omega), (by first | assumption | omega), (by first | assumption | omega), (by first | assumption | omega), (by first | assumption | exact LOW_e (LOW_0 _ _) (by assumption) | exact LOW_c (by assumption) (by assumption) (by assumption) (by assumption) (by assumption) (by omega) (by omega) | exact LOW_n (by assumption) (by assumption) (by assumption) (by assumption) (by omega) (by omega) | exact LOW_t (by assumption) (by assumption) (by assumption) (by omega) | exact LOW_u (by assumption) (by assumption) (by assumption) (by omega) | exact LOW_e (by assumption) (by assumption)), (by first | assumption | exact RDY_0 _ _ (by omega) (by omega) (by omega) (by omega) | exact E_num (by assumption) (by assumption) (by assumption) (by assumption) (by assumption) (by assumption) (by omega) (by omega) (by omega) (by omega) (by omega) (by omega) (by omega) | exact E_open (by assumption) (by omega) (by assumption) (by assumption) (by assumption) (by omega) (by omega) (by omega) (by omega) (by omega) | exact E_close (by assumption) (by assumption) (by assumption) (by assumption) (by assumption) (by assumption) (by assumption) (by assumption) (by assumption) (by assumption) (by omega) (by omega) (by omega) (by omega) (by omega) (by omega) (by omega) (by omega) (by omega) | exact E_sign (by assumption) (by omega) (by assumption) (by assumption) (by assumption) (by omega) (by omega) (by omega) (by omega) (by omega))⟩ (by omega) hT
            · replace hT := hT.trans (if_neg h412)
              exact j413  trivial hT
  exact L242 161 1 1 s11 ⟨(by omega), (by omega), hf_s11, hm_s11, (by first | assumption | omega), (by first | assumption | omega), (by first | assumption | omega), (by first | assumption | omega), (by first | assumption | omega), (by first | assumption | omega), (by first | assumption | omega), (by first | assumption | exact LOW_e (LOW_0 _ _) (by assumption) | exact LOW_c (by assumption) (by assumption) (by assumption) (by assumption) (by assumption) (by omega) (by omega) | exact LOW_n (by assumption) (by assumption) (by assumption) (by assumption) (by omega) (by omega) | exact LOW_t (by assumption) (by assumption) (by assumption) (by omega) | exact LOW_u (by assumption) (by assumption) (by assumption) (by omega) | exact LOW_e (by assumption) (by assumption)), (by first | assumption | exact RDY_0 _ _ (by omega) (by omega) (by omega) (by omega) | exact E_num (by assumption) (by assumption) (by assumption) (by assumption) (by assumption) (by assumption) (by omega) (by omega) (by omega) (by omega) (by omega) (by omega) (by omega) | exact E_open (by assumption) (by omega) (by assumption) (by assumption) (by assumption) (by omega) (by omega) (by omega) (by omega) (by omega) | exact E_close (by assumption) (by assumption) (by assumption) (by assumption) (by assumption) (by assumption) (by assumption) (by assumption) (by assumption) (by assumption) (by omega) (by omega) (by omega) (by omega) (by omega) (by omega) (by omega) (by omega) (by omega) | exact E_sign (by assumption) (by omega) (by assumption) (by assumption) (by assumption) (by omega) (by omega) (by omega) (by omega) (by omega))⟩ (by omega) hT
set_option maxRecDepth 100000 in
set_option maxHeartbeats 4000000 in
theorem c_X9_eRead (l : Launch) (D : va_G) (a : Nat → Nat) (cI cJ cS cT : ClassId) (s0 : gMem)   (hpre0 : 0 ≤ s0 4 0 ∧ s0 4 0 ≤ 160) (hpre1 : 0 ≤ s0 16 0 ∧ s0 16 0 ≤ s0 4 0) (hpre2 : 0 ≤ s0 7 0 ∧ s0 7 0 ≤ 5) (hpre3 : 0 ≤ s0 24 0 ∧ s0 24 0 ≤ s0 16 0) : gC l yX9_eRead cX9_eRead 4 (some .boolean) 4 256 D vwCl (gT cI cJ cS cT) (wdM a cI cJ) lgM kI rgZ [.ref (a 0)] s0 (f_X9_eRead s0) := by
  refine gC_of (by decide +kernel) (hwdM a cI cJ) (Nat.le_of_ble_eq_true rfl) ?_
  intro A p e R s m args below meth c hR E
  subst hR
  have hT := f_X9_eRead_e  s0
  have hf_s0 : fr [5, 16, 17, 18, 19, 21, 22, 23, 24] s0 s0 := fr.rf _ _
  refine k_lv0 (lv' := [(0, .ref (a 0))]) rfl ?_
  refine k_mr (fun hm_s0 => ?_)
  refine k_aloadn (pc := 0) E 0 dX9_eRead_0 rfl rfl ?_
  refine k_iconst (pc := 1) E dX9_eRead_1 ?_
  refine k_putfI (pc := 2) (q0 := 0) (f := 22) (k := 22) E tyX9 tyX9_ok nmX9 inX9 rfl rfl (by decide) wm_920 rfl rfl rfl (Nat.le_of_ble_eq_true rfl) rfl rfl (by omega) dX9_eRead_2 ?_
  obtain ⟨s1, hs1, hT⟩ := glx hT
  refine k_sg hs1.symm ?_
  have hf_s1 : fr [5, 16, 17, 18, 19, 21, 22, 23, 24] s0 s1 := hs1 ▸ hf_s0.set (by decide)
  have ht2 : s1 4 0 = s0 4 0 := by rw [hs1]; exact mset_ne _ _ _ _ _ (by decide)
  have ht3 : s1 7 0 = s0 7 0 := by rw [hs1]; exact mset_ne _ _ _ _ _ (by decide)
  have ht4 : s1 16 0 = s0 16 0 := by rw [hs1]; exact mset_ne _ _ _ _ _ (by decide)
  have ht5 : s1 17 0 = s0 17 0 := by rw [hs1]; exact mset_ne _ _ _ _ _ (by decide)
  have ht6 : s1 18 0 = s0 18 0 := by rw [hs1]; exact mset_ne _ _ _ _ _ (by decide)
  have ht7 : s1 19 0 = s0 19 0 := by rw [hs1]; exact mset_ne _ _ _ _ _ (by decide)
  have ht8 : s1 22 0 = 0 := by rw [hs1]; exact mset_eq _ _ _ _
  have ht9 : s1 23 0 = s0 23 0 := by rw [hs1]; exact mset_ne _ _ _ _ _ (by decide)
  have ht10 : s1 24 0 = s0 24 0 := by rw [hs1]; exact mset_ne _ _ _ _ _ (by decide)
  have htf5_s1 : s1 5 = s0 5 := (by rw [hs1]; exact mset_nf (by decide))
  have htf21_s1 : s1 21 = s0 21 := (by rw [hs1]; exact mset_nf (by decide))
  refine k_aloadn (pc := 5) E 0 dX9_eRead_5 rfl rfl ?_
  refine k_iconst (pc := 6) E dX9_eRead_6 ?_
  refine k_putfI (pc := 7) (q0 := 0) (f := 23) (k := 23) E tyX9 tyX9_ok nmX9 inX9 rfl rfl (by decide) wm_921 rfl rfl rfl (Nat.le_of_ble_eq_true rfl) rfl rfl (by omega) dX9_eRead_7 ?_
  obtain ⟨s11, hs11, hT⟩ := glx hT
  refine k_sg hs11.symm ?_
  have hf_s11 : fr [5, 16, 17, 18, 19, 21, 22, 23, 24] s0 s11 := hs11 ▸ hf_s1.set (by decide)
  have ht12 : s11 4 0 = s1 4 0 := by rw [hs11]; exact mset_ne _ _ _ _ _ (by decide)
  have ht13 : s11 7 0 = s1 7 0 := by rw [hs11]; exact mset_ne _ _ _ _ _ (by decide)
  have ht14 : s11 16 0 = s1 16 0 := by rw [hs11]; exact mset_ne _ _ _ _ _ (by decide)
  have ht15 : s11 17 0 = s1 17 0 := by rw [hs11]; exact mset_ne _ _ _ _ _ (by decide)
  have ht16 : s11 18 0 = s1 18 0 := by rw [hs11]; exact mset_ne _ _ _ _ _ (by decide)
  have ht17 : s11 19 0 = s1 19 0 := by rw [hs11]; exact mset_ne _ _ _ _ _ (by decide)
  have ht18 : s11 22 0 = s1 22 0 := by rw [hs11]; exact mset_ne _ _ _ _ _ (by decide)
  have ht19 : s11 23 0 = 0 := by rw [hs11]; exact mset_eq _ _ _ _
  have ht20 : s11 24 0 = s1 24 0 := by rw [hs11]; exact mset_ne _ _ _ _ _ (by decide)
  have htf5_s11 : s11 5 = s0 5 := ((by rw [hs11]; exact mset_nf (by decide)) : s11 5 = s1 5).trans htf5_s1
  have htf21_s11 : s11 21 = s0 21 := ((by rw [hs11]; exact mset_nf (by decide)) : s11 21 = s1 21).trans htf21_s1
  refine k_iconst (pc := 10) E dX9_eRead_10 ?_
  refine k_istoren (pc := 11) (lv' := [(1, gI 1), (0, .ref (a 0))]) E dX9_eRead_11 rfl (by decide) rfl ?_
  refine k_iconst (pc := 12) E dX9_eRead_12 ?_
  refine k_istoren (pc := 13) (lv' := [(2, gI 1), (1, gI 1), (0, .ref (a 0))]) E dX9_eRead_13 rfl (by decide) rfl ?_
  have L242 : ∀ (n243 : Nat) (v239 : Int) (v240 : Int) (s241 : gMem), ((in32 v239) ∧ (in32 v240) ∧ (fr [5, 16, 17, 18, 19, 21, 22, 23, 24] s0 s241) ∧ (s241 4 0 = s11 4 0) ∧ (s241 7 0 = s11 7 0) ∧ (0 ≤ v239 ∧ v239 ≤ 1) ∧ (0 ≤ v240 ∧ v240 ≤ 1) ∧ (s0 16 0 ≤ s241 16 0 ∧ s241 16 0 ≤ s0 4 0) ∧ (0 ≤ s241 22 0 ∧ s0 24 0 ≤ s241 24 0 ∧ s241 24 0 + s241 22 0 ≤ s241 16 0) ∧ (s241 22 0 - s241 16 0 ≤ s241 23 0 ∧ s241 23 0 ≤ 5) ∧ (LOW (s0 5) (s241 5) ((200 * s0 7 0) + s0 24 0)) ∧ (RDY (s241 5) (s241 21) (200 * s0 7 0) (s0 24 0) (s241 24 0) (s241 22 0) (1 - v239))) → s0 4 0 - s241 16 0 < (n243 : Int) → (f_X9_eRead s0) = (t_X9_eRead_14 n243 v239 v240 s241) → gK D vwCl (wdM a cI cJ) lgM A p l e { frames := 4, cells := 0, slots := 0, locals := 256 } s m args below meth c 4 (gQQ D vwCl (wdM a cI cJ) lgM A kI rgZ below args s) (f_X9_eRead s0) s241 14 [(0, .ref (a 0)), (1, gI v239), (2, gI v240)] [] := by
    intro n243; induction n243 with
    | zero =>
      intro v239 v240 s241 hq hm hT
      exfalso
      obtain ⟨hq461, hq462, hf_s241, hq463, hq464, hq465, hq466, hq467, hq468, hq469, hq470, hq471⟩ := hq
      omega
    | succ n243 ih =>
      intro v239 v240 s241 hq hm hT
      obtain ⟨hq472, hq473, hf_s241, hq474, hq475, hq476, hq477, hq478, hq479, hq480, hq481, hq482⟩ := hq
      replace hT := hT.trans (t_X9_eRead_14_s  n243 v239 v240 s241)
      refine k_aloadn (pc := 14) E 0 dX9_eRead_14 rfl rfl ?_
      refine k_mr (fun hm_s241 => ?_)
      refine k_callV (pc := 15) (np := 0) (As := []) (st := []) (q0 := 0) E (c_X9_next l D a cI cJ cS cT s241  (by first | assumption | omega) (by first | assumption | omega)) wm_858 wm_11 wm_855 wm_857 wp_25 (by decide +kernel) rfl rfl ⟨by decide, by decide⟩ rfl (Nat.le_of_ble_eq_true rfl) dX9_eRead_15 (fun r248 s249 hs249 hr247 => ?_)
      replace hT := gby hT hs249
      have hp250 := f_X9_next_p  s241  hm_s241 (by first | assumption | omega) (by first | assumption | omega) r248 s249 hs249
      obtain ⟨hfc_s249, hm_s249, hp251, hp252, hp253, hp254, hp255⟩ := hp250
      have hf_s249 : fr [5, 16, 17, 18, 19, 21, 22, 23, 24] s0 s249 := hf_s241.call (by decide) hfc_s249
      have htf5_s249 : s249 5 = s241 5 := hfc_s249 5 (by decide)
      have htf21_s249 : s249 21 = s241 21 := hfc_s249 21 (by decide)
      have ht256 : s249 4 0 = s241 4 0 := by rw [hfc_s249 4 (by decide)]
      have ht257 : s249 7 0 = s241 7 0 := by rw [hfc_s249 7 (by decide)]
      have ht258 : s249 22 0 = s241 22 0 := by rw [hfc_s249 22 (by decide)]
      have ht259 : s249 23 0 = s241 23 0 := by rw [hfc_s249 23 (by decide)]
      have ht260 : s249 24 0 = s241 24 0 := by rw [hfc_s249 24 (by decide)]
      refine k_st (st' := []) rfl ?_
      refine k_iloadn (pc := 18) E 1 dX9_eRead_18 rfl rfl ?_
      by_cases h261 : v239 = 0
      · replace hT := hT.trans (if_pos h261)
        refine k_if_eq_t (pc := 19) (tgt := 150) E (by omega) dX9_eRead_19 (by decide) h261 ?_
        refine k_aloadn (pc := 150) E 0 dX9_eRead_150 rfl rfl ?_
        refine k_getfI (pc := 151) (q0 := 0) (f := 18) (k := 18) E inX9 rfl rfl (by decide) wm_916 rfl rfl rfl dX9_eRead_151 (fun hr262 => ?_)
        refine k_bipush (pc := 154) E dX9_eRead_154 (by decide) ?_
        by_cases h263 : (s249 18 0) = 59
        · replace hT := hT.trans (if_pos h263)
          refine k_icmp_ne_f (pc := 156) (tgt := 177) E (by omega) (by omega) dX9_eRead_156 (by decide) h263 ?_
          refine k_aloadn (pc := 159) E 0 dX9_eRead_159 rfl rfl ?_
          refine k_iconst (pc := 160) E dX9_eRead_160 ?_
          refine k_mr (fun hm_s249 => ?_)
          refine k_callV (pc := 161) (np := 1) (As := [gI 1]) (st := []) (q0 := 0) E (c_X9_unwinds l D a cI cJ cS cT s249 1 (by omega) (by first | assumption | omega) (by first | assumption | omega) (by first | assumption | omega) (by first | assumption | omega)) wm_878 wm_11 wm_875 wm_877 wp_29 (by decide +kernel) rfl rfl ⟨by decide, by decide⟩ rfl (Nat.le_of_ble_eq_true rfl) dX9_eRead_161 (fun r265 s266 hs266 hr264 => ?_)
          replace hT := gby hT hs266
          have hp267 := f_X9_unwinds_p 1 s249 (by omega) hm_s249 (by first | assumption | omega) (by first | assumption | omega) (by first | assumption | omega) (by first | assumption | omega) r265 s266 hs266
          obtain ⟨hfc_s266, hm_s266, hp268, hp269, hp270, hp271, hp272, hp273⟩ := hp267
          have hf_s266 : fr [5, 16, 17, 18, 19, 21, 22, 23, 24] s0 s266 := hf_s249.call (by decide) hfc_s266
          have htf21_s266 : s266 21 = s241 21 := hfc_s266 21 (by decide) |>.trans htf21_s249
          have ht274 : s266 4 0 = s249 4 0 := by rw [hfc_s266 4 (by decide)]
          have ht275 : s266 7 0 = s249 7 0 := by rw [hfc_s266 7 (by decide)]
          have ht276 : s266 16 0 = s249 16 0 := by rw [hfc_s266 16 (by decide)]
          have ht277 : s266 17 0 = s249 17 0 := by rw [hfc_s266 17 (by decide)]
          have ht278 : s266 18 0 = s249 18 0 := by rw [hfc_s266 18 (by decide)]
          have ht279 : s266 19 0 = s249 19 0 := by rw [hfc_s266 19 (by decide)]
          refine k_st (st' := []) rfl ?_
          refine k_aloadn (pc := 164) E 0 dX9_eRead_164 rfl rfl ?_
          refine k_getfI (pc := 165) (q0 := 0) (f := 22) (k := 22) E inX9 rfl rfl (by decide) wm_920 rfl rfl rfl dX9_eRead_165 (fun hr280 => ?_)
          by_cases h281 : (s266 22 0) = 0
          · replace hT := hT.trans (if_pos h281)
            refine k_if_ne_f (pc := 168) (tgt := 175) E (by omega) dX9_eRead_168 (by decide) h281 ?_
            refine k_iconst (pc := 171) E dX9_eRead_171 ?_
            refine k_goto (pc := 172) (tgt := 176) E dX9_eRead_172 (by decide) ?_
            exact k_rho hT (k_zret (pc := 176) E dX9_eRead_176 (by first | exact Or.inl rfl | exact Or.inr rfl | omega))
          · replace hT := hT.trans (if_neg h281)
            refine k_if_ne_t (pc := 168) (tgt := 175) E (by omega) dX9_eRead_168 (by decide) h281 ?_
            refine k_iconst (pc := 175) E dX9_eRead_175 ?_
            exact k_rho hT (k_zret (pc := 176) E dX9_eRead_176 (by first | exact Or.inl rfl | exact Or.inr rfl | omega))
        · replace hT := hT.trans (if_neg h263)
          refine k_icmp_ne_t (pc := 156) (tgt := 177) E (by omega) (by omega) dX9_eRead_156 (by decide) h263 ?_
          refine k_aloadn (pc := 177) E 0 dX9_eRead_177 rfl rfl ?_
          refine k_getfI (pc := 178) (q0 := 0) (f := 18) (k := 18) E inX9 rfl rfl (by decide) wm_916 rfl rfl rfl dX9_eRead_178 (fun hr282 => ?_)
          refine k_bipush (pc := 181) E dX9_eRead_181 (by decide) ?_
          by_cases h283 : (s249 18 0) = 41
          · replace hT := hT.trans (if_pos h283)
            refine k_icmp_ne_f (pc := 183) (tgt := 229) E (by omega) (by omega) dX9_eRead_183 (by decide) h283 ?_
            refine k_aloadn (pc := 186) E 0 dX9_eRead_186 rfl rfl ?_
            refine k_iconst (pc := 187) E dX9_eRead_187 ?_
            refine k_mr (fun hm_s249 => ?_)
            refine k_callV (pc := 188) (np := 1) (As := [gI 1]) (st := []) (q0 := 0) E (c_X9_unwinds l D a cI cJ cS cT s249 1 (by omega) (by first | assumption | omega) (by first | assumption | omega) (by first | assumption | omega) (by first | assumption | omega)) wm_878 wm_11 wm_875 wm_877 wp_29 (by decide +kernel) rfl rfl ⟨by decide, by decide⟩ rfl (Nat.le_of_ble_eq_true rfl) dX9_eRead_188 (fun r285 s286 hs286 hr284 => ?_)
            replace hT := gby hT hs286
            have hp287 := f_X9_unwinds_p 1 s249 (by omega) hm_s249 (by first | assumption | omega) (by first | assumption | omega) (by first | assumption | omega) (by first | assumption | omega) r285 s286 hs286
            obtain ⟨hfc_s286, hm_s286, hp288, hp289, hp290, hp291, hp292, hp293⟩ := hp287
            have hf_s286 : fr [5, 16, 17, 18, 19, 21, 22, 23, 24] s0 s286 := hf_s249.call (by decide) hfc_s286
            have htf21_s286 : s286 21 = s241 21 := hfc_s286 21 (by decide) |>.trans htf21_s249
            have ht294 : s286 4 0 = s249 4 0 := by rw [hfc_s286 4 (by decide)]
            have ht295 : s286 7 0 = s249 7 0 := by rw [hfc_s286 7 (by decide)]
            have ht296 : s286 16 0 = s249 16 0 := by rw [hfc_s286 16 (by decide)]
            have ht297 : s286 17 0 = s249 17 0 := by rw [hfc_s286 17 (by decide)]
            have ht298 : s286 18 0 = s249 18 0 := by rw [hfc_s286 18 (by decide)]
            have ht299 : s286 19 0 = s249 19 0 := by rw [hfc_s286 19 (by decide)]
            refine k_st (st' := []) rfl ?_
            refine k_aloadn (pc := 191) E 0 dX9_eRead_191 rfl rfl ?_
            refine k_getfI (pc := 192) (q0 := 0) (f := 22) (k := 22) E inX9 rfl rfl (by decide) wm_920 rfl rfl rfl dX9_eRead_192 (fun hr300 => ?_)
            by_cases h301 : (s286 22 0) = 0
            · replace hT := hT.trans (if_pos h301)
              refine k_if_ne_f (pc := 195) (tgt := 200) E (by omega) dX9_eRead_195 (by decide) h301 ?_
              refine k_iconst (pc := 198) E dX9_eRead_198 ?_
              exact k_rho hT (k_zret (pc := 199) E dX9_eRead_199 (by first | exact Or.inl rfl | exact Or.inr rfl | omega))
            · replace hT := hT.trans (if_neg h301)
              refine k_if_ne_t (pc := 195) (tgt := 200) E (by omega) dX9_eRead_195 (by decide) h301 ?_
              refine k_aloadn (pc := 200) E 0 dX9_eRead_200 rfl rfl ?_
              refine k_dup (pc := 201) E dX9_eRead_201 rfl ?_
              refine k_getfI (pc := 202) (q0 := 0) (f := 22) (k := 22) E inX9 rfl rfl (by decide) wm_920 rfl rfl rfl dX9_eRead_202 (fun hr302 => ?_)
              refine k_iconst (pc := 205) E dX9_eRead_205 ?_
              refine k_isub (pc := 206) E dX9_eRead_206 ?_
              refine k_putfI (pc := 207) (q0 := 0) (f := 22) (k := 22) E tyX9 tyX9_ok nmX9 inX9 rfl rfl (by decide) wm_920 rfl rfl rfl (Nat.le_of_ble_eq_true rfl) rfl rfl (by omega) dX9_eRead_207 ?_
              obtain ⟨s303, hs303, hT⟩ := glx hT
              refine k_sg hs303.symm ?_
              have hf_s303 : fr [5, 16, 17, 18, 19, 21, 22, 23, 24] s0 s303 := hs303 ▸ hf_s286.set (by decide)
              have ht304 : s303 4 0 = s286 4 0 := by rw [hs303]; exact mset_ne _ _ _ _ _ (by decide)
              have ht305 : s303 7 0 = s286 7 0 := by rw [hs303]; exact mset_ne _ _ _ _ _ (by decide)
              have ht306 : s303 16 0 = s286 16 0 := by rw [hs303]; exact mset_ne _ _ _ _ _ (by decide)
              have ht307 : s303 17 0 = s286 17 0 := by rw [hs303]; exact mset_ne _ _ _ _ _ (by decide)
              have ht308 : s303 18 0 = s286 18 0 := by rw [hs303]; exact mset_ne _ _ _ _ _ (by decide)
              have ht309 : s303 19 0 = s286 19 0 := by rw [hs303]; exact mset_ne _ _ _ _ _ (by decide)
              have ht310 : s303 22 0 = ((s286 22 0) - 1) := by rw [hs303]; exact mset_eq _ _ _ _
              have ht311 : s303 23 0 = s286 23 0 := by rw [hs303]; exact mset_ne _ _ _ _ _ (by decide)
              have ht312 : s303 24 0 = s286 24 0 := by rw [hs303]; exact mset_ne _ _ _ _ _ (by decide)
              have htf5_s303 : s303 5 = s286 5 := (by rw [hs303]; exact mset_nf (by decide))
              have htf21_s303 : s303 21 = s241 21 := ((by rw [hs303]; exact mset_nf (by decide)) : s303 21 = s286 21).trans htf21_s286
              refine k_aloadn (pc := 210) E 0 dX9_eRead_210 rfl rfl ?_
              refine k_dup (pc := 211) E dX9_eRead_211 rfl ?_
              refine k_getfI (pc := 212) (q0 := 0) (f := 23) (k := 23) E inX9 rfl rfl (by decide) wm_921 rfl rfl rfl dX9_eRead_212 (fun hr313 => ?_)
              refine k_iconst (pc := 215) E dX9_eRead_215 ?_
              refine k_isub (pc := 216) E dX9_eRead_216 ?_
              refine k_putfI (pc := 217) (q0 := 0) (f := 23) (k := 23) E tyX9 tyX9_ok nmX9 inX9 rfl rfl (by decide) wm_921 rfl rfl rfl (Nat.le_of_ble_eq_true rfl) rfl rfl (by omega) dX9_eRead_217 ?_
              obtain ⟨s314, hs314, hT⟩ := glx hT
              refine k_sg hs314.symm ?_
              have hf_s314 : fr [5, 16, 17, 18, 19, 21, 22, 23, 24] s0 s314 := hs314 ▸ hf_s303.set (by decide)
              have ht315 : s314 4 0 = s303 4 0 := by rw [hs314]; exact mset_ne _ _ _ _ _ (by decide)
              have ht316 : s314 7 0 = s303 7 0 := by rw [hs314]; exact mset_ne _ _ _ _ _ (by decide)
              have ht317 : s314 16 0 = s303 16 0 := by rw [hs314]; exact mset_ne _ _ _ _ _ (by decide)
              have ht318 : s314 17 0 = s303 17 0 := by rw [hs314]; exact mset_ne _ _ _ _ _ (by decide)
              have ht319 : s314 18 0 = s303 18 0 := by rw [hs314]; exact mset_ne _ _ _ _ _ (by decide)
              have ht320 : s314 19 0 = s303 19 0 := by rw [hs314]; exact mset_ne _ _ _ _ _ (by decide)
              have ht321 : s314 22 0 = s303 22 0 := by rw [hs314]; exact mset_ne _ _ _ _ _ (by decide)
              have ht322 : s314 23 0 = ((s303 23 0) - 1) := by rw [hs314]; exact mset_eq _ _ _ _
              have ht323 : s314 24 0 = s303 24 0 := by rw [hs314]; exact mset_ne _ _ _ _ _ (by decide)
              have htf5_s314 : s314 5 = s286 5 := ((by rw [hs314]; exact mset_nf (by decide)) : s314 5 = s303 5).trans htf5_s303
              have htf21_s314 : s314 21 = s241 21 := ((by rw [hs314]; exact mset_nf (by decide)) : s314 21 = s303 21).trans htf21_s303
              refine k_aloadn (pc := 220) E 0 dX9_eRead_220 rfl rfl ?_
              refine k_bipush (pc := 221) E dX9_eRead_221 (by decide) ?_
              refine k_mr (fun hm_s314 => ?_)
              refine k_callV (pc := 223) (np := 1) (As := [gI 7]) (st := []) (q0 := 0) E (c_X9_unwinds l D a cI cJ cS cT s314 7 (by omega) (by first | assumption | omega) (by first | assumption | omega) (by first | assumption | omega) (by first | assumption | omega)) wm_878 wm_11 wm_875 wm_877 wp_29 (by decide +kernel) rfl rfl ⟨by decide, by decide⟩ rfl (Nat.le_of_ble_eq_true rfl) dX9_eRead_223 (fun r325 s326 hs326 hr324 => ?_)
              replace hT := gby hT hs326
              have hp327 := f_X9_unwinds_p 7 s314 (by omega) hm_s314 (by first | assumption | omega) (by first | assumption | omega) (by first | assumption | omega) (by first | assumption | omega) r325 s326 hs326
              obtain ⟨hfc_s326, hm_s326, hp328, hp329, hp330, hp331, hp332, hp333⟩ := hp327
              have hf_s326 : fr [5, 16, 17, 18, 19, 21, 22, 23, 24] s0 s326 := hf_s314.call (by decide) hfc_s326
              have htf21_s326 : s326 21 = s241 21 := hfc_s326 21 (by decide) |>.trans htf21_s314
              have ht334 : s326 4 0 = s314 4 0 := by rw [hfc_s326 4 (by decide)]
              have ht335 : s326 7 0 = s314 7 0 := by rw [hfc_s326 7 (by decide)]
              have ht336 : s326 16 0 = s314 16 0 := by rw [hfc_s326 16 (by decide)]
              have ht337 : s326 17 0 = s314 17 0 := by rw [hfc_s326 17 (by decide)]
              have ht338 : s326 18 0 = s314 18 0 := by rw [hfc_s326 18 (by decide)]
              have ht339 : s326 19 0 = s314 19 0 := by rw [hfc_s326 19 (by decide)]
              refine k_st (st' := []) rfl ?_
              refine k_goto (pc := 226) (tgt := 14) E dX9_eRead_226 (by decide) ?_
              exact ih v239 v240 s326 ⟨(by omega), (by omega), hf_s326, (by first | assumption | omega), (by first | assumption | omega), (by first | assumption | omega), (by first | assumption | omega), (by first | assumption | omega), (by first | assumption | omega), (by first | assumption | omega), (by first | assumption | exact LOW_e (LOW_0 _ _) (by assumption) | exact LOW_c (by assumption) (by assumption) (by assumption) (by assumption) (by assumption) (by omega) (by omega) | exact LOW_n (by assumption) (by assumption) (by assumption) (by assumption) (by omega) (by omega) | exact LOW_t (by assumption) (by assumption) (by assumption) (by omega) | exact LOW_u (by assumption) (by assumption) (by assumption) (by omega) | exact LOW_e (by assumption) (by assumption)), (by first | assumption | exact RDY_0 _ _ (by omega) (by omega) (by omega) (by omega) | exact E_num (by assumption) (by assumption) (by assumption) (by assumption) (by assumption) (by assumption) (by omega) (by omega) (by omega) (by omega) (by omega) (by omega) (by omega) | exact E_open (by assumption) (by omega) (by assumption) (by assumption) (by assumption) (by omega) (by omega) (by omega) (by omega) (by omega) | exact E_close (by assumption) (by assumption) (by assumption) (by assumption) (by assumption) (by assumption) (by assumption) (by assumption) (by assumption) (by assumption) (by omega) (by omega) (by omega) (by omega) (by omega) (by omega) (by omega) (by omega) (by omega) | exact E_sign (by assumption) (by omega) (by assumption) (by assumption) (by assumption) (by omega) (by omega) (by omega) (by omega) (by omega))⟩ (by omega) hT
          · replace hT := hT.trans (if_neg h283)
            refine k_icmp_ne_t (pc := 183) (tgt := 229) E (by omega) (by omega) dX9_eRead_183 (by decide) h283 ?_
            refine k_aloadn (pc := 229) E 0 dX9_eRead_229 rfl rfl ?_
            refine k_mr (fun hm_s249 => ?_)
            refine k_callV (pc := 230) (np := 0) (As := []) (st := []) (q0 := 0) E (c_X9_signOf l D a cI cJ cS cT s249  ) wm_893 wm_11 wm_890 wm_892 wp_32 (by decide +kernel) rfl rfl ⟨by decide, by decide⟩ rfl (Nat.le_of_ble_eq_true rfl) dX9_eRead_230 (ro_kk (fun hr340 => ?_))
            have hp341 := f_X9_signOf_p  s249  hm_s249 
            refine k_st (st' := [gI (f_X9_signOf  s249)]) rfl ?_
            refine k_istoren (pc := 233) (lv' := [(3, gI (f_X9_signOf  s249)), (0, .ref (a 0)), (1, gI v239), (2, gI v240)]) E dX9_eRead_233 rfl (by decide) rfl ?_
            refine k_iloadn (pc := 234) E 0 dX9_eRead_234 rfl rfl ?_
            refine k_iconst (pc := 235) E dX9_eRead_235 ?_
            by_cases h342 : (f_X9_signOf  s249) = (-1)
            · replace hT := hT.trans (if_pos h342)
              refine k_icmp_eq_t (pc := 236) (tgt := 247) E (by omega) (by omega) dX9_eRead_236 (by decide) h342 ?_
              refine k_iconst (pc := 247) E dX9_eRead_247 ?_
              exact k_rho hT (k_zret (pc := 248) E dX9_eRead_248 (by first | exact Or.inl rfl | exact Or.inr rfl | omega))
            · replace hT := hT.trans (if_neg h342)
              refine k_icmp_eq_f (pc := 236) (tgt := 247) E (by omega) (by omega) dX9_eRead_236 (by decide) h342 ?_
              refine k_aloadn (pc := 239) E 1 dX9_eRead_239 rfl rfl ?_
              refine k_iloadn (pc := 240) E 0 dX9_eRead_240 rfl rfl ?_
              refine k_mr (fun hm_s249 => ?_)
              refine k_callV (pc := 241) (np := 1) (As := [gI (f_X9_signOf  s249)]) (st := []) (q0 := 0) E (c_X9_between l D a cI cJ cS cT s249 (f_X9_signOf  s249) (by omega) (by first | assumption | omega) (by first | assumption | omega) (by first | assumption | omega) (by first | assumption | omega)) wm_897 wm_11 wm_894 wm_896 wp_33 (by decide +kernel) rfl rfl ⟨by decide, by decide⟩ rfl (Nat.le_of_ble_eq_true rfl) dX9_eRead_241 (fun r344 s345 hs345 hr343 => ?_)
              replace hT := gby hT hs345
              have hp346 := f_X9_between_p (f_X9_signOf  s249) s249 (by omega) hm_s249 (by first | assumption | omega) (by first | assumption | omega) (by first | assumption | omega) (by first | assumption | omega) r344 s345 hs345
              obtain ⟨hfc_s345, hm_s345, hp347, hp348, hp349, hp350, hp351⟩ := hp346
              have hf_s345 : fr [5, 16, 17, 18, 19, 21, 22, 23, 24] s0 s345 := hf_s249.call (by decide) hfc_s345
              have ht352 : s345 4 0 = s249 4 0 := by rw [hfc_s345 4 (by decide)]
              have ht353 : s345 7 0 = s249 7 0 := by rw [hfc_s345 7 (by decide)]
              have ht354 : s345 16 0 = s249 16 0 := by rw [hfc_s345 16 (by decide)]
              have ht355 : s345 17 0 = s249 17 0 := by rw [hfc_s345 17 (by decide)]
              have ht356 : s345 18 0 = s249 18 0 := by rw [hfc_s345 18 (by decide)]
              have ht357 : s345 19 0 = s249 19 0 := by rw [hfc_s345 19 (by decide)]
              refine k_st (st' := [gI r344]) rfl ?_
              by_cases h358 : r344 = 0
              · replace hT := hT.trans (if_pos h358)
                refine k_if_ne_f (pc := 244) (tgt := 249) E (by omega) dX9_eRead_244 (by decide) h358 ?_
                refine k_iconst (pc := 247) E dX9_eRead_247 ?_
                exact k_rho hT (k_zret (pc := 248) E dX9_eRead_248 (by first | exact Or.inl rfl | exact Or.inr rfl | omega))
              · replace hT := hT.trans (if_neg h358)
                refine k_if_ne_t (pc := 244) (tgt := 249) E (by omega) dX9_eRead_244 (by decide) h358 ?_
                refine k_iconst (pc := 249) E dX9_eRead_249 ?_
                refine k_istoren (pc := 250) (lv' := [(1, gI 1), (3, gI (f_X9_signOf  s249)), (0, .ref (a 0)), (2, gI v240)]) E dX9_eRead_250 rfl (by decide) rfl ?_
                refine k_iloadn (pc := 251) E 1 dX9_eRead_251 rfl rfl ?_
                refine k_bipush (pc := 252) E dX9_eRead_252 (by decide) ?_
                obtain ⟨z364, hz364, hT⟩ := gl1x hT
                have j360 : ∀ (v361 : Int), ((in32 v361) ∧ (0 ≤ v361 ∧ v361 ≤ 1)) → z364 = v361 → gK D vwCl (wdM a cI cJ) lgM A p l e { frames := 4, cells := 0, slots := 0, locals := 256 } s m args below meth c 4 (gQQ D vwCl (wdM a cI cJ) lgM A kI rgZ below args s) (f_X9_eRead s0) s345 262 [(0, .ref (a 0)), (1, gI 1)] [gI v361] := by
                  intro v361 hq hz
                  obtain ⟨hq362, hq363⟩ := hq
                  replace hT := gl1y hT hz
                  refine k_istoren (pc := 262) (lv' := [(2, gI v361), (0, .ref (a 0)), (1, gI 1)]) E dX9_eRead_262 rfl (by decide) rfl ?_
                  refine k_goto (pc := 263) (tgt := 14) E dX9_eRead_263 (by decide) ?_
                  refine k_lv (lv' := [(0, .ref (a 0)), (1, gI 1), (2, gI v361)]) [1, 2, 0] rfl ?_
                  exact ih 1 v361 s345 ⟨(by omega), (by omega), hf_s345, (by first | assumption | omega), (by first | assumption | omega), (by first | assumption | omega), (by first | assumption | omega), (by first | assumption | omega), (by first | assumption | omega), (by first | assumption | omega), (by first | assumption | exact LOW_e (LOW_0 _ _) (by assumption) | exact LOW_c (by assumption) (by assumption) (by assumption) (by assumption) (by assumption) (by omega) (by omega) | exact LOW_n (by assumption) (by assumption) (by assumption) (by assumption) (by omega) (by omega) | exact LOW_t (by assumption) (by assumption) (by assumption) (by omega) | exact LOW_u (by assumption) (by assumption) (by assumption) (by omega) | exact LOW_e (by assumption) (by assumption)), (by first | assumption | exact RDY_0 _ _ (by omega) (by omega) (by omega) (by omega) | exact E_num (by assumption) (by assumption) (by assumption) (by assumption) (by assumption) (by assumption) (by omega) (by omega) (by omega) (by omega) (by omega) (by omega) (by omega) | exact E_open (by assumption) (by omega) (by assumption) (by assumption) (by assumption) (by omega) (by omega) (by omega) (by omega) (by omega) | exact E_close (by assumption) (by assumption) (by assumption) (by assumption) (by assumption) (by assumption) (by assumption) (by assumption) (by assumption) (by assumption) (by omega) (by omega) (by omega) (by omega) (by omega) (by omega) (by omega) (by omega) (by omega) | exact E_sign (by assumption) (by omega) (by assumption) (by assumption) (by assumption) (by omega) (by omega) (by omega) (by omega) (by omega))⟩ (by omega) hT
                replace hT := hz364
                by_cases h359 : 12 < (f_X9_signOf  s249)
                · replace hT := hT.trans (if_pos h359)
                  refine k_icmp_gt_t (pc := 254) (tgt := 261) E (by omega) (by omega) dX9_eRead_254 (by decide) h359 ?_
                  refine k_iconst (pc := 261) E dX9_eRead_261 ?_
                  refine k_lv (lv' := [(0, .ref (a 0)), (1, gI 1)]) [2, 0] rfl ?_
                  exact j360 0 ⟨(by omega), (by first | assumption | omega)⟩ hT
                · replace hT := hT.trans (if_neg h359)
                  refine k_icmp_gt_f (pc := 254) (tgt := 261) E (by omega) (by omega) dX9_eRead_254 (by decide) h359 ?_
                  refine k_iconst (pc := 257) E dX9_eRead_257 ?_
                  refine k_goto (pc := 258) (tgt := 262) E dX9_eRead_258 (by decide) ?_
                  refine k_lv (lv' := [(0, .ref (a 0)), (1, gI 1)]) [2, 0] rfl ?_
                  exact j360 1 ⟨(by omega), (by first | assumption | omega)⟩ hT
      · replace hT := hT.trans (if_neg h261)
        refine k_if_eq_f (pc := 19) (tgt := 150) E (by omega) dX9_eRead_19 (by decide) h261 ?_
        refine k_aloadn (pc := 22) E 0 dX9_eRead_22 rfl rfl ?_
        refine k_getfI (pc := 23) (q0 := 0) (f := 18) (k := 18) E inX9 rfl rfl (by decide) wm_916 rfl rfl rfl dX9_eRead_23 (fun hr365 => ?_)
        refine k_iconst (pc := 26) E dX9_eRead_26 ?_
        obtain ⟨j367c, hj367c, hT⟩ := gjx hT
        have j367 : ((s249 18 0 = 1 ∨ s249 18 0 = 2)) → (f_X9_eRead s0) = j367c  → gK D vwCl (wdM a cI cJ) lgM A p l e { frames := 4, cells := 0, slots := 0, locals := 256 } s m args below meth c 4 (gQQ D vwCl (wdM a cI cJ) lgM A kI rgZ below args s) (f_X9_eRead s0) s249 38 [(0, .ref (a 0)), (2, gI v240)] [] := by
          intro  hq hT
          have hq408 := hq
          rw [hj367c] at hT
          refine k_aloadn (pc := 38) E 0 dX9_eRead_38 rfl rfl ?_
          refine k_aloadn (pc := 39) E 0 dX9_eRead_39 rfl rfl ?_
          refine k_getfI (pc := 40) (q0 := 0) (f := 18) (k := 18) E inX9 rfl rfl (by decide) wm_916 rfl rfl rfl dX9_eRead_40 (fun hr368 => ?_)
          refine k_iconst (pc := 43) E dX9_eRead_43 ?_
          obtain ⟨z405, hz405, hT⟩ := gl1x hT
          have j370 : ∀ (v371 : Int), ((in32 v371) ∧ ((0 ≤ v371 ∧ v371 ≤ 5) ∨ (100000 ≤ v371 ∧ v371 ≤ 109999))) → z405 = v371 → gK D vwCl (wdM a cI cJ) lgM A p l e { frames := 4, cells := 0, slots := 0, locals := 256 } s m args below meth c 4 (gQQ D vwCl (wdM a cI cJ) lgM A kI rgZ below args s) (f_X9_eRead s0) s249 61 [(0, .ref (a 0)), (2, gI v240)] [gI v371, .ref (a 0)] := by
            intro v371 hq hz
            obtain ⟨hq403, hq404⟩ := hq
            replace hT := gl1y hT hz
            refine k_mr (fun hm_s249 => ?_)
            refine k_callV (pc := 61) (np := 1) (As := [gI v371]) (st := []) (q0 := 0) E (c_X9_puts l D a cI cJ cS cT s249 v371 (by omega) (by first | assumption | omega) (by first | assumption | omega)) wm_874 wm_11 wm_871 wm_873 wp_28 (by decide +kernel) rfl rfl ⟨by decide, by decide⟩ rfl (Nat.le_of_ble_eq_true rfl) dX9_eRead_61 (fun r373 s374 hs374 hr372 => ?_)
            replace hT := gby hT hs374
            have hp375 := f_X9_puts_p v371 s249 (by omega) hm_s249 (by first | assumption | omega) (by first | assumption | omega) r373 s374 hs374
            obtain ⟨hfc_s374, hm_s374, hp376, hp377, hp378⟩ := hp375
            have hf_s374 : fr [5, 16, 17, 18, 19, 21, 22, 23, 24] s0 s374 := hf_s249.call (by decide) hfc_s374
            have htf21_s374 : s374 21 = s241 21 := hfc_s374 21 (by decide) |>.trans htf21_s249
            have ht379 : s374 4 0 = s249 4 0 := by rw [hfc_s374 4 (by decide)]
            have ht380 : s374 7 0 = s249 7 0 := by rw [hfc_s374 7 (by decide)]
            have ht381 : s374 16 0 = s249 16 0 := by rw [hfc_s374 16 (by decide)]
            have ht382 : s374 17 0 = s249 17 0 := by rw [hfc_s374 17 (by decide)]
            have ht383 : s374 18 0 = s249 18 0 := by rw [hfc_s374 18 (by decide)]
            have ht384 : s374 19 0 = s249 19 0 := by rw [hfc_s374 19 (by decide)]
            have ht385 : s374 22 0 = s249 22 0 := by rw [hfc_s374 22 (by decide)]
            have ht386 : s374 23 0 = s249 23 0 := by rw [hfc_s374 23 (by decide)]
            refine k_st (st' := []) rfl ?_
            refine k_aloadn (pc := 64) E 0 dX9_eRead_64 rfl rfl ?_
            refine k_bipush (pc := 65) E dX9_eRead_65 (by decide) ?_
            refine k_mr (fun hm_s374 => ?_)
            refine k_callV (pc := 67) (np := 1) (As := [gI 7]) (st := []) (q0 := 0) E (c_X9_unwinds l D a cI cJ cS cT s374 7 (by omega) (by first | assumption | omega) (by first | assumption | omega) (by first | assumption | omega) (by first | assumption | omega)) wm_878 wm_11 wm_875 wm_877 wp_29 (by decide +kernel) rfl rfl ⟨by decide, by decide⟩ rfl (Nat.le_of_ble_eq_true rfl) dX9_eRead_67 (fun r388 s389 hs389 hr387 => ?_)
            replace hT := gby hT hs389
            have hp390 := f_X9_unwinds_p 7 s374 (by omega) hm_s374 (by first | assumption | omega) (by first | assumption | omega) (by first | assumption | omega) (by first | assumption | omega) r388 s389 hs389
            obtain ⟨hfc_s389, hm_s389, hp391, hp392, hp393, hp394, hp395, hp396⟩ := hp390
            have hf_s389 : fr [5, 16, 17, 18, 19, 21, 22, 23, 24] s0 s389 := hf_s374.call (by decide) hfc_s389
            have htf21_s389 : s389 21 = s241 21 := hfc_s389 21 (by decide) |>.trans htf21_s374
            have ht397 : s389 4 0 = s374 4 0 := by rw [hfc_s389 4 (by decide)]
            have ht398 : s389 7 0 = s374 7 0 := by rw [hfc_s389 7 (by decide)]
            have ht399 : s389 16 0 = s374 16 0 := by rw [hfc_s389 16 (by decide)]
            have ht400 : s389 17 0 = s374 17 0 := by rw [hfc_s389 17 (by decide)]
            have ht401 : s389 18 0 = s374 18 0 := by rw [hfc_s389 18 (by decide)]
            have ht402 : s389 19 0 = s374 19 0 := by rw [hfc_s389 19 (by decide)]
            refine k_st (st' := []) rfl ?_
            refine k_iconst (pc := 70) E dX9_eRead_70 ?_
            refine k_istoren (pc := 71) (lv' := [(1, gI 0), (0, .ref (a 0)), (2, gI v240)]) E dX9_eRead_71 rfl (by decide) rfl ?_
            refine k_goto (pc := 72) (tgt := 14) E dX9_eRead_72 (by decide) ?_
            refine k_lv (lv' := [(0, .ref (a 0)), (1, gI 0), (2, gI v240)]) [1, 0, 2] rfl ?_
            exact ih 0 v240 s389 ⟨(by omega), (by omega), hf_s389, (by first | assumption | omega), (by first | assumption | omega), (by first | assumption | omega), (by first | assumption | omega), (by first | assumption | omega), (by first | assumption | omega), (by first | assumption | omega), (by first | assumption | exact LOW_e (LOW_0 _ _) (by assumption) | exact LOW_c (by assumption) (by assumption) (by assumption) (by assumption) (by assumption) (by omega) (by omega) | exact LOW_n (by assumption) (by assumption) (by assumption) (by assumption) (by omega) (by omega) | exact LOW_t (by assumption) (by assumption) (by assumption) (by omega) | exact LOW_u (by assumption) (by assumption) (by assumption) (by omega) | exact LOW_e (by assumption) (by assumption)), (by first | assumption | exact RDY_0 _ _ (by omega) (by omega) (by omega) (by omega) | exact E_num (by assumption) (by assumption) (by assumption) (by assumption) (by assumption) (by assumption) (by omega) (by omega) (by omega) (by omega) (by omega) (by omega) (by omega) | exact E_open (by assumption) (by omega) (by assumption) (by assumption) (by assumption) (by omega) (by omega) (by omega) (by omega) (by omega) | exact E_close (by assumption) (by assumption) (by assumption) (by assumption) (by assumption) (by assumption) (by assumption) (by assumption) (by assumption) (by assumption) (by omega) (by omega) (by omega) (by omega) (by omega) (by omega) (by omega) (by omega) (by omega) | exact E_sign (by assumption) (by omega) (by assumption) (by assumption) (by assumption) (by omega) (by omega) (by omega) (by omega) (by omega))⟩ (by omega) hT
          replace hT := hz405
          by_cases h369 : (s249 18 0) = 1
          · replace hT := hT.trans (if_pos h369)
            refine k_icmp_ne_f (pc := 44) (tgt := 57) E (by omega) (by omega) dX9_eRead_44 (by decide) h369 ?_
            refine k_ldc (pc := 47) (n := 100000) E dX9_eRead_47 wm_870 (by decide) ?_
            refine k_aloadn (pc := 49) E 0 dX9_eRead_49 rfl rfl ?_
            refine k_getfI (pc := 50) (q0 := 0) (f := 19) (k := 19) E inX9 rfl rfl (by decide) wm_917 rfl rfl rfl dX9_eRead_50 (fun hr406 => ?_)
            refine k_iadd (pc := 53) E dX9_eRead_53 ?_
            refine k_goto (pc := 54) (tgt := 61) E dX9_eRead_54 (by decide) ?_
            exact j370 (100000 + (s249 19 0)) ⟨(by omega), (by first | assumption | omega)⟩ hT
          · replace hT := hT.trans (if_neg h369)
            refine k_icmp_ne_t (pc := 44) (tgt := 57) E (by omega) (by omega) dX9_eRead_44 (by decide) h369 ?_
            refine k_aloadn (pc := 57) E 0 dX9_eRead_57 rfl rfl ?_
            refine k_getfI (pc := 58) (q0 := 0) (f := 19) (k := 19) E inX9 rfl rfl (by decide) wm_917 rfl rfl rfl dX9_eRead_58 (fun hr407 => ?_)
            exact j370 (s249 19 0) ⟨(by omega), (by first | assumption | omega)⟩ hT
        by_cases h366 : (s249 18 0) = 1
        · replace hT := hT.trans (if_pos h366)
          refine k_icmp_eq_t (pc := 27) (tgt := 38) E (by omega) (by omega) dX9_eRead_27 (by decide) h366 ?_
          refine k_lv (lv' := [(0, .ref (a 0)), (2, gI v240)]) [0, 2] rfl ?_
          exact j367  (by first | assumption | omega) hT
        · replace hT := hT.trans (if_neg h366)
          refine k_icmp_eq_f (pc := 27) (tgt := 38) E (by omega) (by omega) dX9_eRead_27 (by decide) h366 ?_
          refine k_aloadn (pc := 30) E 0 dX9_eRead_30 rfl rfl ?_
          refine k_getfI (pc := 31) (q0 := 0) (f := 18) (k := 18) E inX9 rfl rfl (by decide) wm_916 rfl rfl rfl dX9_eRead_31 (fun hr409 => ?_)
          refine k_iconst (pc := 34) E dX9_eRead_34 ?_
          by_cases h410 : (s249 18 0) = 2
          · replace hT := hT.trans (if_pos h410)
            refine k_icmp_ne_f (pc := 35) (tgt := 75) E (by omega) (by omega) dX9_eRead_35 (by decide) h410 ?_
            refine k_lv (lv' := [(0, .ref (a 0)), (2, gI v240)]) [0, 2] rfl ?_
            exact j367  (by first | assumption | omega) hT
          · replace hT := hT.trans (if_neg h410)
            refine k_icmp_ne_t (pc := 35) (tgt := 75) E (by omega) (by omega) dX9_eRead_35 (by decide) h410 ?_
            refine k_aloadn (pc := 75) E 0 dX9_eRead_75 rfl rfl ?_
            refine k_getfI (pc := 76) (q0 := 0) (f := 18) (k := 18) E inX9 rfl rfl (by decide) wm_916 rfl rfl rfl dX9_eRead_76 (fun hr411 => ?_)
            refine k_bipush (pc := 79) E dX9_eRead_79 (by decide) ?_
            obtain ⟨j413c, hj413c, hT⟩ := gjx hT
            have j413 : (True) → (f_X9_eRead s0) = j413c  → gK D vwCl (wdM a cI cJ) lgM A p l e { frames := 4, cells := 0, slots := 0, locals := 256 } s m args below meth c 4 (gQQ D vwCl (wdM a cI cJ) lgM A kI rgZ below args s) (f_X9_eRead s0) s249 99 [(0, .ref (a 0)), (1, gI v239)] [] := by
              intro  hq hT
              rw [hj413c] at hT
              refine k_aloadn (pc := 99) E 0 dX9_eRead_99 rfl rfl ?_
              refine k_getfI (pc := 100) (q0 := 0) (f := 18) (k := 18) E inX9 rfl rfl (by decide) wm_916 rfl rfl rfl dX9_eRead_100 (fun hr414 => ?_)
              refine k_bipush (pc := 103) E dX9_eRead_103 (by decide) ?_
              by_cases h415 : (s249 18 0) = 45
              · replace hT := hT.trans (if_pos h415)
                refine k_icmp_ne_f (pc := 105) (tgt := 124) E (by omega) (by omega) dX9_eRead_105 (by decide) h415 ?_
                refine k_aloadn (pc := 108) E 0 dX9_eRead_108 rfl rfl ?_
                refine k_bipush (pc := 109) E dX9_eRead_109 (by decide) ?_
                refine k_mr (fun hm_s249 => ?_)
                refine k_callV (pc := 111) (np := 1) (As := [gI 19]) (st := []) (q0 := 0) E (c_X9_opensOne l D a cI cJ cS cT s249 19 (by omega) (by first | assumption | omega) (by first | assumption | omega)) wm_885 wm_11 wm_882 wm_884 wp_30 (by decide +kernel) rfl rfl ⟨by decide, by decide⟩ rfl (Nat.le_of_ble_eq_true rfl) dX9_eRead_111 (fun r417 s418 hs418 hr416 => ?_)
                replace hT := gby hT hs418
                have hp419 := f_X9_opensOne_p 19 s249 (by omega) hm_s249 (by first | assumption | omega) (by first | assumption | omega) r417 s418 hs418
                obtain ⟨hfc_s418, hm_s418, hp420, hp421⟩ := hp419
                have hf_s418 : fr [5, 16, 17, 18, 19, 21, 22, 23, 24] s0 s418 := hf_s249.call (by decide) hfc_s418
                have htf5_s418 : s418 5 = s241 5 := hfc_s418 5 (by decide) |>.trans htf5_s249
                have ht422 : s418 4 0 = s249 4 0 := by rw [hfc_s418 4 (by decide)]
                have ht423 : s418 7 0 = s249 7 0 := by rw [hfc_s418 7 (by decide)]
                have ht424 : s418 16 0 = s249 16 0 := by rw [hfc_s418 16 (by decide)]
                have ht425 : s418 17 0 = s249 17 0 := by rw [hfc_s418 17 (by decide)]
                have ht426 : s418 18 0 = s249 18 0 := by rw [hfc_s418 18 (by decide)]
                have ht427 : s418 19 0 = s249 19 0 := by rw [hfc_s418 19 (by decide)]
                have ht428 : s418 24 0 = s249 24 0 := by rw [hfc_s418 24 (by decide)]
                refine k_st (st' := [gI r417]) rfl ?_
                by_cases h429 : r417 = 0
                · replace hT := hT.trans (if_pos h429)
                  refine k_if_ne_f (pc := 114) (tgt := 119) E (by omega) dX9_eRead_114 (by decide) h429 ?_
                  refine k_iconst (pc := 117) E dX9_eRead_117 ?_
                  exact k_rho hT (k_zret (pc := 118) E dX9_eRead_118 (by first | exact Or.inl rfl | exact Or.inr rfl | omega))
                · replace hT := hT.trans (if_neg h429)
                  refine k_if_ne_t (pc := 114) (tgt := 119) E (by omega) dX9_eRead_114 (by decide) h429 ?_
                  refine k_iconst (pc := 119) E dX9_eRead_119 ?_
                  refine k_istoren (pc := 120) (lv' := [(2, gI 0), (0, .ref (a 0)), (1, gI v239)]) E dX9_eRead_120 rfl (by decide) rfl ?_
                  refine k_goto (pc := 121) (tgt := 14) E dX9_eRead_121 (by decide) ?_
                  refine k_lv (lv' := [(0, .ref (a 0)), (1, gI v239), (2, gI 0)]) [1, 2, 0] rfl ?_
                  exact ih v239 0 s418 ⟨(by omega), (by omega), hf_s418, (by first | assumption | omega), (by first | assumption | omega), (by first | assumption | omega), (by first | assumption | omega), (by first | assumption | omega), (by first | assumption | omega), (by first | assumption | omega), (by first | assumption | exact LOW_e (LOW_0 _ _) (by assumption) | exact LOW_c (by assumption) (by assumption) (by assumption) (by assumption) (by assumption) (by omega) (by omega) | exact LOW_n (by assumption) (by assumption) (by assumption) (by assumption) (by omega) (by omega) | exact LOW_t (by assumption) (by assumption) (by assumption) (by omega) | exact LOW_u (by assumption) (by assumption) (by assumption) (by omega) | exact LOW_e (by assumption) (by assumption)), (by first | assumption | exact RDY_0 _ _ (by omega) (by omega) (by omega) (by omega) | exact E_num (by assumption) (by assumption) (by assumption) (by assumption) (by assumption) (by assumption) (by omega) (by omega) (by omega) (by omega) (by omega) (by omega) (by omega) | exact E_open (by assumption) (by omega) (by assumption) (by assumption) (by assumption) (by omega) (by omega) (by omega) (by omega) (by omega) | exact E_close (by assumption) (by assumption) (by assumption) (by assumption) (by assumption) (by assumption) (by assumption) (by assumption) (by assumption) (by assumption) (by omega) (by omega) (by omega) (by omega) (by omega) (by omega) (by omega) (by omega) (by omega) | exact E_sign (by assumption) (by omega) (by assumption) (by assumption) (by assumption) (by omega) (by omega) (by omega) (by omega) (by omega))⟩ (by omega) hT
              · replace hT := hT.trans (if_neg h415)
                refine k_icmp_ne_t (pc := 105) (tgt := 124) E (by omega) (by omega) dX9_eRead_105 (by decide) h415 ?_
                refine k_aloadn (pc := 124) E 0 dX9_eRead_124 rfl rfl ?_
                refine k_getfI (pc := 125) (q0 := 0) (f := 18) (k := 18) E inX9 rfl rfl (by decide) wm_916 rfl rfl rfl dX9_eRead_125 (fun hr430 => ?_)
                refine k_bipush (pc := 128) E dX9_eRead_128 (by decide) ?_
                by_cases h431 : (s249 18 0) = 40
                · replace hT := hT.trans (if_pos h431)
                  refine k_icmp_ne_f (pc := 130) (tgt := 148) E (by omega) (by omega) dX9_eRead_130 (by decide) h431 ?_
                  refine k_aloadn (pc := 133) E 0 dX9_eRead_133 rfl rfl ?_
                  refine k_iconst (pc := 134) E dX9_eRead_134 ?_
                  refine k_mr (fun hm_s249 => ?_)
                  refine k_callV (pc := 135) (np := 1) (As := [gI 0]) (st := []) (q0 := 0) E (c_X9_opensOne l D a cI cJ cS cT s249 0 (by omega) (by first | assumption | omega) (by first | assumption | omega)) wm_885 wm_11 wm_882 wm_884 wp_30 (by decide +kernel) rfl rfl ⟨by decide, by decide⟩ rfl (Nat.le_of_ble_eq_true rfl) dX9_eRead_135 (fun r433 s434 hs434 hr432 => ?_)
                  replace hT := gby hT hs434
                  have hp435 := f_X9_opensOne_p 0 s249 (by omega) hm_s249 (by first | assumption | omega) (by first | assumption | omega) r433 s434 hs434
                  obtain ⟨hfc_s434, hm_s434, hp436, hp437⟩ := hp435
                  have hf_s434 : fr [5, 16, 17, 18, 19, 21, 22, 23, 24] s0 s434 := hf_s249.call (by decide) hfc_s434
                  have htf5_s434 : s434 5 = s241 5 := hfc_s434 5 (by decide) |>.trans htf5_s249
                  have ht438 : s434 4 0 = s249 4 0 := by rw [hfc_s434 4 (by decide)]
                  have ht439 : s434 7 0 = s249 7 0 := by rw [hfc_s434 7 (by decide)]
                  have ht440 : s434 16 0 = s249 16 0 := by rw [hfc_s434 16 (by decide)]
                  have ht441 : s434 17 0 = s249 17 0 := by rw [hfc_s434 17 (by decide)]
                  have ht442 : s434 18 0 = s249 18 0 := by rw [hfc_s434 18 (by decide)]
                  have ht443 : s434 19 0 = s249 19 0 := by rw [hfc_s434 19 (by decide)]
                  have ht444 : s434 24 0 = s249 24 0 := by rw [hfc_s434 24 (by decide)]
                  refine k_st (st' := [gI r433]) rfl ?_
                  by_cases h445 : r433 = 0
                  · replace hT := hT.trans (if_pos h445)
                    refine k_if_ne_f (pc := 138) (tgt := 143) E (by omega) dX9_eRead_138 (by decide) h445 ?_
                    refine k_iconst (pc := 141) E dX9_eRead_141 ?_
                    exact k_rho hT (k_zret (pc := 142) E dX9_eRead_142 (by first | exact Or.inl rfl | exact Or.inr rfl | omega))
                  · replace hT := hT.trans (if_neg h445)
                    refine k_if_ne_t (pc := 138) (tgt := 143) E (by omega) dX9_eRead_138 (by decide) h445 ?_
                    refine k_iconst (pc := 143) E dX9_eRead_143 ?_
                    refine k_istoren (pc := 144) (lv' := [(2, gI 1), (0, .ref (a 0)), (1, gI v239)]) E dX9_eRead_144 rfl (by decide) rfl ?_
                    refine k_goto (pc := 145) (tgt := 14) E dX9_eRead_145 (by decide) ?_
                    refine k_lv (lv' := [(0, .ref (a 0)), (1, gI v239), (2, gI 1)]) [1, 2, 0] rfl ?_
                    exact ih v239 1 s434 ⟨(by omega), (by omega), hf_s434, (by first | assumption | omega), (by first | assumption | omega), (by first | assumption | omega), (by first | assumption | omega), (by first | assumption | omega), (by first | assumption | omega), (by first | assumption | omega), (by first | assumption | exact LOW_e (LOW_0 _ _) (by assumption) | exact LOW_c (by assumption) (by assumption) (by assumption) (by assumption) (by assumption) (by omega) (by omega) | exact LOW_n (by assumption) (by assumption) (by assumption) (by assumption) (by omega) (by omega) | exact LOW_t (by assumption) (by assumption) (by assumption) (by omega) | exact LOW_u (by assumption) (by assumption) (by assumption) (by omega) | exact LOW_e (by assumption) (by assumption)), (by first | assumption | exact RDY_0 _ _ (by omega) (by omega) (by omega) (by omega) | exact E_num (by assumption) (by assumption) (by assumption) (by assumption) (by assumption) (by assumption) (by omega) (by omega) (by omega) (by omega) (by omega) (by omega) (by omega) | exact E_open (by assumption) (by omega) (by assumption) (by assumption) (by assumption) (by omega) (by omega) (by omega) (by omega) (by omega) | exact E_close (by assumption) (by assumption) (by assumption) (by assumption) (by assumption) (by assumption) (by assumption) (by assumption) (by assumption) (by assumption) (by omega) (by omega) (by omega) (by omega) (by omega) (by omega) (by omega) (by omega) (by omega) | exact E_sign (by assumption) (by omega) (by assumption) (by assumption) (by assumption) (by omega) (by omega) (by omega) (by omega) (by omega))⟩ (by omega) hT
                · replace hT := hT.trans (if_neg h431)
                  refine k_icmp_ne_t (pc := 130) (tgt := 148) E (by omega) (by omega) dX9_eRead_130 (by decide) h431 ?_
                  refine k_iconst (pc := 148) E dX9_eRead_148 ?_
                  exact k_rho hT (k_zret (pc := 149) E dX9_eRead_149 (by first | exact Or.inl rfl | exact Or.inr rfl | omega))
            by_cases h412 : (s249 18 0) = 6
            · replace hT := hT.trans (if_pos h412)
              refine k_icmp_ne_f (pc := 81) (tgt := 99) E (by omega) (by omega) dX9_eRead_81 (by decide) h412 ?_
              refine k_iloadn (pc := 84) E 2 dX9_eRead_84 rfl rfl ?_
              by_cases h446 : v240 = 0
              · replace hT := hT.trans (if_pos h446)
                refine k_if_eq_t (pc := 85) (tgt := 99) E (by omega) dX9_eRead_85 (by decide) h446 ?_
                refine k_lv (lv' := [(0, .ref (a 0)), (1, gI v239)]) [0, 1] rfl ?_
                exact j413  trivial hT
              · replace hT := hT.trans (if_neg h446)
                refine k_if_eq_f (pc := 85) (tgt := 99) E (by omega) dX9_eRead_85 (by decide) h446 ?_
                refine k_aloadn (pc := 88) E 0 dX9_eRead_88 rfl rfl ?_
                refine k_bipush (pc := 89) E dX9_eRead_89 (by decide) ?_
                refine k_mr (fun hm_s249 => ?_)
                refine k_callV (pc := 91) (np := 1) (As := [gI 13]) (st := []) (q0 := 0) E (c_X9_opensOne l D a cI cJ cS cT s249 13 (by omega) (by first | assumption | omega) (by first | assumption | omega)) wm_885 wm_11 wm_882 wm_884 wp_30 (by decide +kernel) rfl rfl ⟨by decide, by decide⟩ rfl (Nat.le_of_ble_eq_true rfl) dX9_eRead_91 (fun r448 s449 hs449 hr447 => ?_)
                replace hT := gby hT hs449
                have hp450 := f_X9_opensOne_p 13 s249 (by omega) hm_s249 (by first | assumption | omega) (by first | assumption | omega) r448 s449 hs449
                obtain ⟨hfc_s449, hm_s449, hp451, hp452⟩ := hp450
                have hf_s449 : fr [5, 16, 17, 18, 19, 21, 22, 23, 24] s0 s449 := hf_s249.call (by decide) hfc_s449
                have htf5_s449 : s449 5 = s241 5 := hfc_s449 5 (by decide) |>.trans htf5_s249
                have ht453 : s449 4 0 = s249 4 0 := by rw [hfc_s449 4 (by decide)]
                have ht454 : s449 7 0 = s249 7 0 := by rw [hfc_s449 7 (by decide)]
                have ht455 : s449 16 0 = s249 16 0 := by rw [hfc_s449 16 (by decide)]
                have ht456 : s449 17 0 = s249 17 0 := by rw [hfc_s449 17 (by decide)]
                have ht457 : s449 18 0 = s249 18 0 := by rw [hfc_s449 18 (by decide)]
                have ht458 : s449 19 0 = s249 19 0 := by rw [hfc_s449 19 (by decide)]
                have ht459 : s449 24 0 = s249 24 0 := by rw [hfc_s449 24 (by decide)]
                refine k_st (st' := [gI r448]) rfl ?_
                by_cases h460 : r448 = 0
                · replace hT := hT.trans (if_pos h460)
                  refine k_if_ne_f (pc := 94) (tgt := 14) E (by omega) dX9_eRead_94 (by decide) h460 ?_
                  refine k_iconst (pc := 97) E dX9_eRead_97 ?_
                  exact k_rho hT (k_zret (pc := 98) E dX9_eRead_98 (by first | exact Or.inl rfl | exact Or.inr rfl | omega))
                · replace hT := hT.trans (if_neg h460)
                  refine k_if_ne_t (pc := 94) (tgt := 14) E (by omega) dX9_eRead_94 (by decide) h460 ?_
                  exact ih v239 v240 s449 ⟨(by omega), (by omega), hf_s449, (by first | assumption | omega), (by first | assumption | omega), (by first | assumption | omega), (by first | assumption | omega), (by first | assumption | omega), (by first | assumption | omega), (by first | assumption | omega), (by first | assumption | exact LOW_e (LOW_0 _ _) (by assumption) | exact LOW_c (by assumption) (by assumption) (by assumption) (by assumption) (by assumption) (by omega) (by omega) | exact LOW_n (by assumption) (by assumption) (by assumption) (by assumption) (by omega) (by omega) | exact LOW_t (by assumption) (by assumption) (by assumption) (by omega) | exact LOW_u (by assumption) (by assumption) (by assumption) (by omega) | exact LOW_e (by assumption) (by assumption)), (by first | assumption | exact RDY_0 _ _ (by omega) (by omega) (by omega) (by omega) | exact E_num (by assumption) (by assumption) (by assumption) (by assumption) (by assumption) (by assumption) (by omega) (by omega) (by omega) (by omega) (by omega) (by omega) (by omega) | exact E_open (by assumption) (by omega) (by assumption) (by assumption) (by assumption) (by omega) (by omega) (by omega) (by omega) (by omega) | exact E_close (by assumption) (by assumption) (by assumption) (by assumption) (by assumption) (by assumption) (by assumption) (by assumption) (by assumption) (by assumption) (by omega) (by omega) (by omega) (by omega) (by omega) (by omega) (by omega) (by omega) (by omega) | exact E_sign (by assumption) (by omega) (by assumption) (by assumption) (by assumption) (by omega) (by omega) (by omega) (by omega) (by omega))⟩ (by omega) hT
            · replace hT := hT.trans (if_neg h412)
              refine k_icmp_ne_t (pc := 81) (tgt := 99) E (by omega) (by omega) dX9_eRead_81 (by decide) h412 ?_
              refine k_lv (lv' := [(0, .ref (a 0)), (1, gI v239)]) [0, 1] rfl ?_
              exact j413  trivial hT
  refine k_lv (lv' := [(0, .ref (a 0)), (1, gI 1), (2, gI 1)]) [2, 1, 0] rfl ?_
  exact L242 161 1 1 s11 ⟨(by omega), (by omega), hf_s11, (by first | assumption | omega), (by first | assumption | omega), (by first | assumption | omega), (by first | assumption | omega), (by first | assumption | omega), (by first | assumption | omega), (by first | assumption | omega), (by first | assumption | exact LOW_e (LOW_0 _ _) (by assumption) | exact LOW_c (by assumption) (by assumption) (by assumption) (by assumption) (by assumption) (by omega) (by omega) | exact LOW_n (by assumption) (by assumption) (by assumption) (by assumption) (by omega) (by omega) | exact LOW_t (by assumption) (by assumption) (by assumption) (by omega) | exact LOW_u (by assumption) (by assumption) (by assumption) (by omega) | exact LOW_e (by assumption) (by assumption)), (by first | assumption | exact RDY_0 _ _ (by omega) (by omega) (by omega) (by omega) | exact E_num (by assumption) (by assumption) (by assumption) (by assumption) (by assumption) (by assumption) (by omega) (by omega) (by omega) (by omega) (by omega) (by omega) (by omega) | exact E_open (by assumption) (by omega) (by assumption) (by assumption) (by assumption) (by omega) (by omega) (by omega) (by omega) (by omega) | exact E_close (by assumption) (by assumption) (by assumption) (by assumption) (by assumption) (by assumption) (by assumption) (by assumption) (by assumption) (by assumption) (by omega) (by omega) (by omega) (by omega) (by omega) (by omega) (by omega) (by omega) (by omega) | exact E_sign (by assumption) (by omega) (by assumption) (by assumption) (by assumption) (by omega) (by omega) (by omega) (by omega) (by omega))⟩ (by omega) hT
