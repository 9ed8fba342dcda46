/-! film -/
theorem XT_shc {s b s' b' : gMem} (h : XT s b) (hs : fr [14, 15, 16, 17, 90, 91, 92, 93, 94, 95, 96, 97] s s') (ht : fr [12, 13, 14] b b') (hsh : RLsh s' b') (gx : gMR lgX s') (gm : gMR lgM b') : XT s' b' ∧ ∀ p q, 0 ≤ p ∧ p ≤ 15 → 0 ≤ q ∧ q ≤ 16 → FA b' p q = FA b p q := by
  obtain ⟨hR0, hI, hIM, c1, c2, c3⟩ := id h
  obtain ⟨i1, i2, i3, i4, i5, i6, i7, i8, i9, i10, i11, i12, i13⟩ := id hI
  have hR : RLa s' b' := ⟨RLpl_fr hR0.1 (frK hs (by decide)) (frK ht (by decide)), RLto_fr hR0.2.1 (frK hs (by decide)) (frK ht (by decide)), RLno_fr hR0.2.2.1 (frK hs (by decide)) (frK ht (by decide)), RLtp_fr hR0.2.2.2.1 (frK hs (by decide)) (frK ht (by decide)), RLtx_fr hR0.2.2.2.2.1 (frK hs (by decide)) (frK ht (by decide)), RLim_fr hR0.2.2.2.2.2.1 (frK hs (by decide)) (frK ht (by decide)), hsh⟩
  have hI' : IX s' := IX_fr hI gx (frK hs (by decide)) (KF_fr i11 (frK hs (by decide))) (KC_fr i12 (frK hs (by decide))) (KT_fr i13 (frK hs (by decide)))
  have hM' : IM b' := IM_fr hIM gm (frK ht (by decide))
  have l := i4 0
  have h26 : s' (26 + (s 63 0).toNat) = s (26 + (s 63 0).toNat) := hs _ (by simp; omega)
  have h19 : s' (19 + (s 63 0).toNat) = s (19 + (s 63 0).toNat) := hs _ (by simp; omega)
  obtain ⟨d1, d2, d3⟩ := CF_x h hR hI'.2.2.1 hI'.2.2.2.2.2.2.1 hM' (ht 0 (by decide)) (ht 1 (by decide)) (frK hs (by decide)) h26 h19
  refine ⟨⟨hR, hI', hM', d1, d2, d3⟩, fun p q hp hq => ?_⟩
  rw [FA_e hM' hp hq, FA_e hIM hp hq, ht 0 (by decide), ht 1 (by decide), A_x h hR hI'.2.2.1 hI'.2.2.2.2.2.2.1 hM'.2.1 (frK hs (by decide)) h26 h19 (by omega) hp]
def shW (s T : gMem) : gMem := fun c i => if 14 ≤ c ∧ c ≤ 17 ∧ 0 ≤ i ∧ i < 40 then T 14 (40 * ((c : Int) - 14) + i) else s c i
def b14 (b T : gMem) : gMem := fun c => if c = 14 then T 14 else b c
theorem M_falls14 {s b T : gMem} (h : XT s b) (hM : ∀ k ∈ KMl, k ≠ 14 → T k = b k) (gT : gMR lgM T) {p : Int} (hp : 0 ≤ p ∧ p ≤ 15) : ∃ T', f_X9_fallsOf p 0 T = (FA b p 0, T') ∧ fr [25, 26] T T' ∧ gMR lgM T' := by
  have fW : fr [14, 15, 16, 17, 90, 91, 92, 93, 94, 95, 96, 97] s (shW s T) := fun k hk => by
    funext i
    unfold shW
    rw [if_neg]
    intro z
    apply hk
    have : k = 14 ∨ k = 15 ∨ k = 16 ∨ k = 17 := by omega
    rcases this with e | e | e | e <;> rw [e] <;> decide
  have fB : fr [12, 13, 14] b (b14 b T) := fun k hk => by
    unfold b14
    rw [if_neg (fun e => hk (by rw [e]; decide))]
  have hsh : RLsh (shW s T) (b14 b T) := fun k hk => by
    obtain ⟨r1, r2, r3⟩ := h.1.2.2.2.2.2.2 k hk
    refine ⟨?_, ?_, fun i i0 i1 => ?_⟩
    · unfold shW b14
      rw [if_neg (by omega), if_neg (by decide)]; exact r1
    · unfold shW b14
      rw [if_neg (by omega), if_neg (by decide)]; exact r2
    · unfold shW b14
      rw [if_pos (by omega), if_pos rfl]
      congr 1
      omega
  have gx : gMR lgX (shW s T) := fun k i => by
    unfold shW
    by_cases z : 14 ≤ k ∧ k ≤ 17 ∧ 0 ≤ i ∧ i < 40
    · rw [if_pos z]
      have e : lgX k = false := by
        have : k = 14 ∨ k = 15 ∨ k = 16 ∨ k = 17 := by omega
        rcases this with e | e | e | e <;> rw [e] <;> decide
      exact ⟨fun _ => (gT 14 _).1 rfl, fun q => by rw [e] at q; exact absurd q (by decide)⟩
    · rw [if_neg z]; exact h.2.1.1 k i
  have gb1 : gMR lgM (b14 b T) := fun k i => by
    unfold b14
    by_cases z : k = 14
    · rw [if_pos z, z]; exact gT 14 i
    · rw [if_neg z]; exact h.2.2.1.1 k i
  obtain ⟨X1, hF⟩ := XT_shc h fW fB hsh gx gb1
  have M1 : MT (b14 b T) T := ⟨fun k hk => by
    unfold b14
    by_cases z : k = 14
    · rw [if_pos z, z]
    · rw [if_neg z]; exact hM k hk z, gT⟩
  obtain ⟨T', q1, q2, q3⟩ := M_falls X1 M1 hp (b := 0) (by omega)
  exact ⟨T', by rw [q1, hF p 0 hp (by omega)], q2, q3.2⟩
theorem i8_fin : ∀ a : Fin 100, ((Int32.ofInt (a.val : Int)).toInt8.toInt) = (a.val : Int) := by decide +kernel
theorem i8_id {a : Int} (h : 0 ≤ a ∧ a ≤ 99) : ((Int32.ofInt a).toInt8.toInt) = a := by
  have z := i8_fin ⟨a.toNat, by omega⟩
  have e1 : ((a.toNat : Nat) : Int) = a := by omega
  simp only [e1] at z
  exact z
theorem film_tail (c1 c2 c4 : Int) : ∀ (n : Nat) (v : Int) (T : gMem), 16 ≤ v → 40 - v < n → fr [14] T (w_X9_film_77 c1 c2 c4 n v T).2 ∧ ∀ j, (w_X9_film_77 c1 c2 c4 n v T).2 14 j = if 40 * c1 + v ≤ j ∧ j < 40 * c1 + 40 then 0 else T 14 j := by
  intro n
  induction n with
  | zero => intro v T _ h; refine ⟨fr.rf _ _, fun j => ?_⟩; rw [if_neg (by omega)]; rfl
  | succ n ih =>
    intro v T v0 h
    rw [w_X9_film_77_s]
    by_cases c : v < 40
    · rw [if_pos c, if_neg (by omega), gl2_v, gl_v]
      have fU : fr [14] T (mset T 14 (40 * c1 + v) 0) := (fr.rf _ T).set (by decide)
      obtain ⟨i1, i2⟩ := ih (v + 1) (mset T 14 (40 * c1 + v) 0) (by omega) (by omega)
      refine ⟨fU.call (by decide) i1, fun j => ?_⟩
      rw [i2, mset_at]
      by_cases e : j = 40 * c1 + v
      · rw [if_pos e, ite_self, if_pos (by omega)]
      · rw [if_neg e]
        by_cases a : 40 * c1 + (v + 1) ≤ j ∧ j < 40 * c1 + 40
        · rw [if_pos a, if_pos (show 40 * c1 + v ≤ j ∧ j < 40 * c1 + 40 by omega)]
        · rw [if_neg a, if_neg (show ¬ (40 * c1 + v ≤ j ∧ j < 40 * c1 + 40) by omega)]
    · rw [if_neg c]
      refine ⟨fr.rf _ _, fun j => ?_⟩
      rw [if_neg (by omega)]
theorem film_loop {x0 c2 c4 : Int} (hx : 0 ≤ x0 ∧ x0 ≤ 3) : ∀ (n m : Nat) (v : Int) (s b T : gMem), XT s b → b 12 x0 = 0 → (∀ k ∈ KMl, k ≠ 14 → T k = b k) → gMR lgM T → (∀ j, ¬ (40 * x0 + v ≤ j ∧ j < 40 * x0 + 40) → T 14 j = b 14 j) → (∀ j, 40 * x0 + v ≤ j → j < 40 * x0 + 40 → b 14 j = 0) → 0 ≤ v → v ≤ 16 → 16 - v < n → 40 - v < m → ∃ (u u' : Int) (s' b' T' : gMem), w_X8_film_80 x0 c2 c4 n v s = (u, s') ∧ w_X9_film_77 x0 c2 c4 m v T = (u', T') ∧ XT s' b' ∧ (∀ k ∈ KMl, T' k = b' k) := by
  intro n
  induction n with
  | zero => intro m v s b T _ _ _ _ _ _ _ _ h; exfalso; omega
  | succ n ih =>
    intro m v s b T hX h12 hM gT ho hz v0 v1 hn hm
    rw [w_X8_film_80_s]
    by_cases c : v < 16
    · obtain ⟨m, rfl⟩ : ∃ m', m = m' + 1 := ⟨m - 1, by omega⟩
      rw [w_X9_film_77_s, if_pos c, if_pos (show v < 40 by omega), if_pos c]
      have ew : f_X9_within v 0 15 = v := by unfold f_X9_within; rw [if_neg (by omega), if_neg (by omega)]
      rw [ew]
      have step : ∃ (val : Int) (s1 T1 : gMem), (if c2 = 16 then gb (f_X4_falls v 0 s) (fun r34 s35 => (r34, s35)) else ((iand (ishr c4 v) 1), s)) = (val, s1) ∧ (if c2 = 16 then gb (f_X9_fallsOf v 0 T) (fun r30 s31 => (r30, s31)) else ((iand (ishr c4 v) 1), T)) = (val, T1) ∧ (0 ≤ val ∧ val ≤ 99) ∧ XT s1 b ∧ fr [25, 26] T T1 ∧ gMR lgM T1 := by
        by_cases d : c2 = 16
        · rw [if_pos d, if_pos d]
          obtain ⟨s1, e1, f1, X1⟩ := X_falls hX (p := v) (b := 0) (by omega) (by omega)
          obtain ⟨T1, g1, g2, g3⟩ := M_falls14 hX hM gT (p := v) (by omega)
          exact ⟨_, s1, T1, by rw [e1]; rfl, by rw [g1]; rfl, FA_rg hX.2.2.1 (by omega) (by omega), X1, g2, g3⟩
        · rw [if_neg d, if_neg d]
          have h1 := iand1 (ishr c4 v)
          exact ⟨_, s, T, rfl, rfl, by omega, hX, fr.rf _ _, gT⟩
      obtain ⟨val, s1, T1, e1, e2, hv, X1, fT, g1⟩ := step
      rw [e1, e2, gl2_v, gl2_v, gl_v]
      have hk := (sh_k X1.1 hx).1
      have ewr : f_X5_write v val x0.toNat s1 = (0, mset s1 (14 + x0.toNat) v val) := by
        unfold f_X5_write
        rw [hk, h12, if_pos rfl, i8_id hv]
        rfl
      rw [gb_eq ewr]
      have fs1 : fr [14, 15, 16, 17, 90, 91, 92, 93, 94, 95, 96, 97] s1 (mset s1 (14 + x0.toNat) v val) := (fr.rf _ _).set (by
        have : x0.toNat = 0 ∨ x0.toNat = 1 ∨ x0.toNat = 2 ∨ x0.toNat = 3 := by omega
        rcases this with e | e | e | e <;> rw [e] <;> decide)
      have lk : lgX (14 + x0.toNat) = false := by
        have : x0.toNat = 0 ∨ x0.toNat = 1 ∨ x0.toNat = 2 ∨ x0.toNat = 3 := by omega
        rcases this with e | e | e | e <;> rw [e] <;> decide
      have fb1 : fr [12, 13, 14] b (mset b 14 (40 * x0 + v) val) := (fr.rf _ _).set (by decide)
      obtain ⟨X2, -⟩ := XT_shc X1 fs1 fb1 (cell_sh X1.1.2.2.2.2.2.2 hx (by omega)) (X1.2.1.1.set32 lk (by omega)) (X1.2.2.1.1.set32 rfl (by omega))
      refine ih m (v + 1) _ _ (mset T1 14 (40 * x0 + v) val) X2 (by rw [mset_ne _ _ _ _ _ (by decide)]; exact h12) (fun k hk hne => ?_) (g1.set32 rfl (by omega)) (fun j hj => ?_) (fun j j0 j1 => ?_) (by omega) (by omega) (by omega) (by omega)
      · funext i
        rw [mset_ne _ _ _ _ _ hne, mset_ne _ _ _ _ _ hne, fT k (by revert k; decide), hM k hk hne]
      · rw [mset_at, mset_at, fT 14 (by decide)]
        by_cases e : j = 40 * x0 + v
        · rw [if_pos e, if_pos e]
        · rw [if_neg e, if_neg e]; exact ho j (by omega)
      · rw [mset_at, if_neg (by omega)]; exact hz j (by omega) j1
    · rw [if_neg c]
      obtain ⟨i1, i2⟩ := film_tail x0 c2 c4 m v T (by omega) hm
      refine ⟨v, (w_X9_film_77 x0 c2 c4 m v T).1, s, b, (w_X9_film_77 x0 c2 c4 m v T).2, rfl, rfl, hX, fun k hk => ?_⟩
      by_cases e : k = 14
      · subst e
        funext j
        rw [i2]
        by_cases d : 40 * x0 + v ≤ j ∧ j < 40 * x0 + 40
        · rw [if_pos d, hz j d.1 d.2]
        · rw [if_neg d]; exact ho j d
      · rw [i1 k (by simp; exact e)]; exact hM k hk e
theorem EQ_film {s t : gMem} (h : INV s t) {x0 x1 x2 : Int} (hx0 : in32 x0) (hx1 : in32 x1) (hx2 : in32 x2) : (f_X8_film x0 x1 x2 s).1 = (f_X9_film x0 x1 x2 t).1 ∧ INV (f_X8_film x0 x1 x2 s).2 (f_X9_film x0 x1 x2 t).2 := by
  obtain ⟨fx, hX'⟩ := XI_film h.2.1 hx0 hx1 hx2
  obtain ⟨fm, hM'⟩ := MI_film h.2.2.1 hx0 hx1 hx2
  have ref : ∀ r : Int, f_X8_film x0 x1 x2 s = (r, s) → f_X9_film x0 x1 x2 t = (r, t) → (f_X8_film x0 x1 x2 s).1 = (f_X9_film x0 x1 x2 t).1 ∧ INV (f_X8_film x0 x1 x2 s).2 (f_X9_film x0 x1 x2 t).2 := fun r e1 e2 => by rw [e1, e2]; exact ⟨rfl, h⟩
  by_cases a : 0 ≤ x0 ∧ x0 < 4
  · have a' : 0 ≤ x0 ∧ x0 ≤ 3 := by omega
    by_cases b : 0 ≤ x1 ∧ x1 < 17
    · have b' : 0 ≤ x1 ∧ x1 ≤ 16 := by omega
      by_cases c : 0 ≤ x2 ∧ x2 < 3
      · have c' : 0 ≤ x2 ∧ x2 ≤ 2 := by omega
        obtain ⟨P, hP⟩ : ∃ P : Int, P = (if x1 = 16 then 0 else f_X9_pushed (f_X9_within x1 0 15) x2 t) := ⟨_, rfl⟩
        have eP : (if x1 < 16 then (f_X4_pushed x1 x2 (s 62 0) s) else 0) = P := by
          rw [hP]
          by_cases d : x1 = 16
          · rw [if_pos d, if_neg (by omega)]
          · rw [if_neg d, if_pos (by omega), (P_eq h (p := x1) (sd := x2) (by omega) c').1]
            unfold f_X9_within
            rw [if_neg (by omega), if_neg (by omega)]
        have eS : f_X8_sheet x0 0 16 s = (1, (f_X5_renew 0 16 x0.toNat s).2) := by
          unfold f_X8_sheet
          rw [if_out, if_pos a, if_neg (by decide), if_pos (by decide), if_neg (by decide), if_neg (by decide), if_neg (by decide)]
          rfl
        have eT : f_X9_sheet x0 0 16 t = (1, (w_X9_sheet_70 x0 41 0 (mset (mset t 12 x0 0) 13 x0 16)).2) := by
          unfold f_X9_sheet
          simp only [gj, gl, gl2]
          rw [if_in, if_in, if_pos a', if_pos (by decide), if_neg (by decide), if_neg (by decide), if_neg (by decide), if_neg (by decide), if_neg (by decide)]
        obtain ⟨-, hI⟩ := EQ_sheet h (x0 := x0) (x1 := 0) (x2 := 16) hx0 (by omega) (by omega)
        rw [eS, eT] at hI
        obtain ⟨z1, z2⟩ := z70 x0 41 0 (mset (mset t 12 x0 0) 13 x0 16) (by omega)
        obtain ⟨B, hB⟩ : ∃ B, B = (w_X9_sheet_70 x0 41 0 (mset (mset t 12 x0 0) 13 x0 16)).2 := ⟨_, rfl⟩
        rw [← hB] at hI z1 z2
        have hI2 : INV (f_X5_renew 0 16 x0.toNat s).2 B := hI
        obtain ⟨u, u', s', bb, T', q1, q2, q3, q4⟩ := film_loop a' (c2 := x1) (c4 := P) 17 41 0 (f_X5_renew 0 16 x0.toNat s).2 B (mset (mset t 12 x0 0) 13 x0 16) (INV_XT hI2) (by rw [z1 12 (by decide), mset_ne _ _ _ _ _ (by decide), mset_eq]) (fun k hk hne => (z1 k (by simp; exact hne)).symm) (((INV_gM h).set32 rfl (by omega)).set32 rfl (by omega)) (fun j hj => by rw [z2, if_neg (by omega)]) (fun j j0 j1 => by rw [z2, if_pos (by omega)]) (by omega) (by omega) (by omega) (by omega)
        have eX : f_X8_film x0 x1 x2 s = (16, s') := by
          unfold f_X8_film
          rw [if_out, if_out, if_out, if_pos a, if_pos b, if_pos c, eP, gl_v, gb_eq (show f_X5_renew 0 16 x0.toNat s = (0, (f_X5_renew 0 16 x0.toNat s).2) from rfl), q1, gl2_v]
        have eM : f_X9_film x0 x1 x2 t = (16, T') := by
          unfold f_X9_film
          rw [if_in, if_in, if_sd, if_pos a', if_pos b', if_pos c', ← hP, gl_v, gl_v, gl_v, q2, gl2_v]
        rw [eX] at hX' ⊢
        rw [eM] at hM' ⊢
        exact ⟨rfl, INV_end q3 ⟨q4, hM'.1.1⟩ hX' hM'⟩
      · exact ref (-7) (by unfold f_X8_film; rw [if_out, if_out, if_out, if_pos a, if_pos b, if_neg c]) (by unfold f_X9_film; rw [if_in, if_in, if_sd, if_pos a', if_pos b', if_neg (by omega)])
    · exact ref (-5) (by unfold f_X8_film; rw [if_out, if_out, if_pos a, if_neg b]) (by unfold f_X9_film; rw [if_in, if_in, if_pos a', if_neg (by omega)])
  · exact ref (-2) (by unfold f_X8_film; rw [if_out, if_neg a]) (by unfold f_X9_film; rw [if_in, if_neg (by omega)])
