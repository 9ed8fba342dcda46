/-! who falls: both sides -/
theorem ishr_nn {x p : Int} (hx : 0 ≤ x ∧ x ≤ 65535) (hp : 0 ≤ p ∧ p ≤ 16) : ishr x p = x / 2 ^ p.toNat := by
  have h := ishr_N (a := x.toNat) (by omega) (k := p.toNat) (by omega)
  have e1 : ((x.toNat : Nat) : Int) = x := by omega
  have e2 : ((p.toNat : Nat) : Int) = p := by omega
  rw [e1, e2] at h
  rw [h]
  rw [Int.natCast_ediv, e1]
  simp
theorem bitS_N {x p : Int} (hx : 0 ≤ x ∧ x ≤ 65535) (hp : 0 ≤ p ∧ p ≤ 15) : bitS x p ↔ x.toNat.testBit p.toNat = true := by
  have h := ishr_N (a := x.toNat) (by omega) (k := p.toNat) (by omega)
  have e1 : ((x.toNat : Nat) : Int) = x := by omega
  have e2 : ((p.toNat : Nat) : Int) = p := by omega
  rw [e1, e2] at h
  unfold bitS
  have hd : x.toNat / 2 ^ p.toNat ≤ x.toNat := Nat.div_le_self _ _
  have h1 := iand_N (a := x.toNat / 2 ^ p.toNat) (b := 1) (by omega) (by omega)
  rw [h]
  have e3 : ((1 : Nat) : Int) = 1 := rfl
  rw [e3] at h1
  rw [h1, Nat.testBit_eq_decide_div_mod_eq, Nat.and_one_is_mod]
  simp only [decide_eq_true_eq]
  omega
theorem ior_N {a b : Nat} (ha : a < 2147483648) (hb : b < 2147483648) : ior (a : Int) (b : Int) = ((a ||| b : Nat) : Int) := by
  have h1 : ((Int32.ofInt (a : Int)).toBitVec.toNat : Int) = a := o_nat (by omega) (by omega)
  have h2 : ((Int32.ofInt (b : Int)).toBitVec.toNat : Int) = b := o_nat (by omega) (by omega)
  have h3 : (Int32.ofInt (a : Int) ||| Int32.ofInt (b : Int)).toBitVec.toNat = a ||| b := by
    rw [Int32.toBitVec_or, BitVec.toNat_or]
    have e1 : (Int32.ofInt (a : Int)).toBitVec.toNat = a := by omega
    have e2 : (Int32.ofInt (b : Int)).toBitVec.toNat = b := by omega
    rw [e1, e2]
  have h4 : a ||| b < 2 ^ 31 := Nat.or_lt_two_pow (by omega) (by omega)
  have h5 : ior (a : Int) (b : Int) = (Int32.ofInt (a : Int) ||| Int32.ofInt (b : Int)).toBitVec.toInt := rfl
  rw [h5, BitVec.toInt_eq_toNat_cond, h3]
  split <;> omega
theorem ishl_1N {k : Nat} (hk : k < 17) : ishl 1 (k : Int) = ((2 ^ k : Nat) : Int) := by
  have h : ∀ n : Fin 17, ishl 1 (n.val : Int) = ((2 ^ n.val : Nat) : Int) := by decide +kernel
  exact h ⟨k, hk⟩
theorem ext16 {x y : Int} (hx : 0 ≤ x ∧ x ≤ 65535) (hy : 0 ≤ y ∧ y ≤ 65535) (h : ∀ i, 0 ≤ i → i < 16 → (bitS x i ↔ bitS y i)) : x = y := by
  have e : x.toNat = y.toNat := by
    refine Nat.eq_of_testBit_eq (fun i => ?_)
    by_cases c : i < 16
    · have h1 := h (i : Int) (by omega) (by omega)
      rw [bitS_N hx (by omega), bitS_N hy (by omega)] at h1
      have e2 : ((i : Nat) : Int).toNat = i := by omega
      rw [e2] at h1
      cases hb : x.toNat.testBit i <;> cases hc : y.toNat.testBit i
      · rfl
      · exact absurd (h1.mpr hc) (by rw [hb]; decide)
      · exact absurd (h1.mp hb) (by rw [hc]; decide)
      · rfl
    · have hp : 2 ^ 16 ≤ 2 ^ i := Nat.pow_le_pow_right (by decide) (by omega)
      rw [Nat.testBit_lt_two_pow (by omega), Nat.testBit_lt_two_pow (by omega)]
  omega
theorem bit_or {x y i : Int} (hx : 0 ≤ x ∧ x ≤ 65535) (hy : 0 ≤ y ∧ y ≤ 65535) (hi : 0 ≤ i ∧ i ≤ 15) : bitS (ior x y) i ↔ bitS x i ∨ bitS y i := by
  have h := ior_N (a := x.toNat) (b := y.toNat) (by omega) (by omega)
  have e1 : ((x.toNat : Nat) : Int) = x := by omega
  have e2 : ((y.toNat : Nat) : Int) = y := by omega
  rw [e1, e2] at h
  have hr := ior_16 hx.1 hx.2 hy.1 hy.2
  rw [bitS_N hr hi, bitS_N hx hi, bitS_N hy hi]
  have e3 : (ior x y).toNat = x.toNat ||| y.toNat := by omega
  rw [e3, Nat.testBit_or]
  simp
theorem bit_and {x y i : Int} (hx : 0 ≤ x ∧ x ≤ 65535) (hy : 0 ≤ y ∧ y ≤ 65535) (hi : 0 ≤ i ∧ i ≤ 15) : bitS (iand x y) i ↔ bitS x i ∧ bitS y i := by
  have h := iand_N (a := x.toNat) (b := y.toNat) (by omega) (by omega)
  have e1 : ((x.toNat : Nat) : Int) = x := by omega
  have e2 : ((y.toNat : Nat) : Int) = y := by omega
  rw [e1, e2] at h
  have hr := iand_nn y hx.1 (by omega)
  rw [bitS_N (by omega) hi, bitS_N hx hi, bitS_N hy hi]
  have e3 : (iand x y).toNat = x.toNat &&& y.toNat := by omega
  rw [e3, Nat.testBit_and]
  simp
theorem shl_rg {p : Int} (h : 0 ≤ p ∧ p ≤ 15) : 0 ≤ ishl 1 p ∧ ishl 1 p ≤ 65535 := by
  have := ishl_1 h.1 h.2
  omega
theorem bit_shl {p i : Int} (hp : 0 ≤ p ∧ p ≤ 15) (hi : 0 ≤ i ∧ i ≤ 15) : bitS (ishl 1 p) i ↔ i = p := by
  have h := ishl_1N (k := p.toNat) (by omega)
  have e1 : ((p.toNat : Nat) : Int) = p := by omega
  rw [e1] at h
  rw [bitS_N (shl_rg hp) hi, h]
  have e2 : ((2 ^ p.toNat : Nat) : Int).toNat = 2 ^ p.toNat := rfl
  rw [e2, Nat.testBit_two_pow]
  simp only [decide_eq_true_eq]
  omega
theorem btw_M {b x : Int} (hx : 0 ≤ x ∧ x ≤ 65535) (hb : b ≤ 15) : ∀ (n : Nat) (v k : Int), 0 ≤ v ∧ v ≤ 65535 → 0 ≤ k → b + 1 - k < n → 0 ≤ (w_X9_between__5 b x n v k).1 ∧ (w_X9_between__5 b x n v k).1 ≤ 65535 ∧ ∀ z, 0 ≤ z → z ≤ 15 → (bitS (w_X9_between__5 b x n v k).1 z ↔ bitS v z ∨ (k ≤ z ∧ z ≤ b ∧ bitS x z)) := by
  intro n
  induction n with
  | zero =>
    intro v k hv k0 h
    refine ⟨hv.1, hv.2, fun z z0 z1 => ⟨fun q => Or.inl q, fun q => ?_⟩⟩
    rcases q with q | q
    · exact q
    · exfalso; omega
  | succ n ih =>
    intro v k hv k0 h
    rw [w_X9_between__5_s]
    by_cases c : b < k
    · rw [if_pos c]
      refine ⟨hv.1, hv.2, fun z z0 z1 => ⟨fun q => Or.inl q, fun q => ?_⟩⟩
      rcases q with q | q
      · exact q
      · exfalso; omega
    · rw [if_neg c]
      simp only [gl]
      have hs := shl_rg (p := k) (by omega)
      have ha := iand_nn (ishl 1 k) hx.1 (by omega)
      have hA : 0 ≤ iand x (ishl 1 k) ∧ iand x (ishl 1 k) ≤ 65535 := by omega
      have ho := ior_16 hv.1 hv.2 hA.1 hA.2
      obtain ⟨b1, b2, b3⟩ := ih (ior v (iand x (ishl 1 k))) (k + 1) ho (by omega) (by omega)
      refine ⟨b1, b2, fun z z0 z1 => ?_⟩
      rw [b3 z z0 z1, bit_or hv hA ⟨z0, z1⟩, bit_and hx hs ⟨z0, z1⟩, bit_shl (by omega) ⟨z0, z1⟩]
      constructor
      · intro q
        rcases q with (q | q) | q
        · exact Or.inl q
        · exact Or.inr ⟨by omega, by omega, q.1⟩
        · exact Or.inr ⟨by omega, q.2.1, q.2.2⟩
      · intro q
        rcases q with q | q
        · exact Or.inl (Or.inl q)
        · by_cases e : z = k
          · exact Or.inl (Or.inr ⟨q.2.2, e⟩)
          · exact Or.inr ⟨by omega, q.2.1, q.2.2⟩
theorem zer (z : Int) (h0 : 0 ≤ z) (h1 : z ≤ 15) : ¬ bitS 0 z := bit0 h0 (by omega)
theorem btw_bits {a b x : Int} (hx : 0 ≤ x ∧ x ≤ 65535) (ha : 0 ≤ a) (hb : b ≤ 15) : 0 ≤ f_X9_between_ a b x ∧ f_X9_between_ a b x ≤ 65535 ∧ ∀ z, 0 ≤ z → z ≤ 15 → (bitS (f_X9_between_ a b x) z ↔ a ≤ z ∧ z ≤ b ∧ bitS x z) := by
  unfold f_X9_between_
  simp only [gl2]
  obtain ⟨b1, b2, b3⟩ := btw_M hx hb 17 0 a (by omega) ha (by omega)
  refine ⟨b1, b2, fun z z0 z1 => ?_⟩
  rw [b3 z z0 z1]
  exact ⟨fun q => q.resolve_left (zer z z0 z1), fun q => Or.inr q⟩
/-- z lies behind p, as far as f, to the side c -/
def BHD (c p f z : Int) : Prop := (c = 1 ∧ p < z ∧ z ≤ f) ∨ (c = -1 ∧ f ≤ z ∧ z < p)
theorem fall_joint {s t : gMem} {c x re p : Int} (hR : RLpl s t) (hc : c = 1 ∨ c = -1) (hx : 0 ≤ x ∧ x ≤ 65535) (hp : 0 ≤ p ∧ p ≤ 15) (hre : t 2 3 = re) : ∀ (n : Nat) (B now em q oX oM : Int), 0 ≤ B ∧ B ≤ 65535 → 0 ≤ now ∧ now ≤ 15 → 0 ≤ em → q = now + c * (em + 1) → (oX = 0 ↔ oM = 0 ∨ re < em) → (c = 1 → p ≤ now) → (c = -1 → now ≤ p) → (∀ z, 0 ≤ z → z ≤ 15 → (bitS B z ↔ bitS x z ∧ BHD c p now z)) → (∀ z, 0 ≤ z → z ≤ 15 → BHD c now (q - c) z → ¬ bitS x z) → ∃ (B' now' : Int), (w_X4_fallsOn_26 c x re s n B now oX q).1 = B' ∧ (w_X9_fallsTo_26 c x t n now em q oM).1 = now' ∧ (0 ≤ B' ∧ B' ≤ 65535) ∧ (0 ≤ now' ∧ now' ≤ 15) ∧ (c = 1 → p ≤ now') ∧ (c = -1 → now' ≤ p) ∧ ∀ z, 0 ≤ z → z ≤ 15 → (bitS B' z ↔ bitS x z ∧ BHD c p now' z) := by
  intro n
  induction n with
  | zero => intro B now em q oX oM h1 h2 h3 h4 h5 h6 h7 h8 h9; exact ⟨B, now, rfl, rfl, h1, h2, h6, h7, h8⟩
  | succ n ih =>
    intro B now em q oX oM h1 h2 h3 h4 h5 h6 h7 h8 h9
    rw [w_X4_fallsOn_26_s, w_X9_fallsTo_26_s, hre]
    by_cases o1 : oX = 0
    · rw [if_pos o1]
      refine ⟨B, now, rfl, ?_, h1, h2, h6, h7, h8⟩
      by_cases o2 : oM = 0
      · rw [if_pos o2]
      · rw [if_neg o2, if_pl]
        by_cases o3 : 0 ≤ q ∧ q ≤ 15
        · rw [if_pos o3, if_pos ((h5.mp o1).resolve_left o2)]
        · rw [if_neg o3]
    · have o2 : ¬ oM = 0 := fun z => o1 (h5.mpr (Or.inl z))
      have o3 : ¬ re < em := fun z => o1 (h5.mpr (Or.inr z))
      rw [if_neg o1, if_neg o2, if_pl]
      by_cases c1 : q < 0
      · rw [if_pos c1, if_neg (by omega)]
        exact ⟨B, now, rfl, rfl, h1, h2, h6, h7, h8⟩
      · rw [if_neg c1]
        by_cases c2 : q < 16
        · rw [if_pos c2, if_pos (show 0 ≤ q ∧ q ≤ 15 by omega), if_neg o3]
          have hq : 0 ≤ q ∧ q ≤ 15 := by omega
          by_cases d : f_X8_has x q = 0
          · rw [if_pos d, if_pos (show f_X9_isIn x q = 0 from d)]
            simp only [gl, gl3]
            have ea : iabs (q - now) = em + 1 := by
              unfold iabs
              rcases hc with rfl | rfl
              · rw [if_pos (by omega)]; omega
              · rw [if_neg (by omega)]; omega
            rw [ea]
            refine ih B now (em + 1) (q + c) _ oM h1 h2 (by omega) ?_ ?_ h6 h7 h8 (fun z z0 z1 z2 => ?_)
            · rcases hc with rfl | rfl <;> omega
            · by_cases e : re < em + 1
              · rw [if_pos e]; exact ⟨fun _ => Or.inr e, fun _ => rfl⟩
              · rw [if_neg e]; exact ⟨fun z => absurd z (by decide), fun z => by
                  rcases z with z | z
                  · exact absurd z o2
                  · exact absurd z e⟩
            · by_cases e : z = q
              · rw [e]; exact (has0 _ _).mp d
              · refine h9 z z0 z1 ?_
                unfold BHD at z2 ⊢
                rcases hc with rfl | rfl <;> omega
          · rw [if_neg d, if_neg (show ¬ f_X9_isIn x q = 0 from d)]
            have hb : bitS x q := Classical.byContradiction fun z => d ((has0 _ _).mpr z)
            by_cases st : t 0 q = 4
            · rw [if_neg (fun z => (sto0 _ _).mp z (by rw [(hR q hq.1 c2).1]; exact st)), if_neg (fun z => (dst0 _ _).mp z st)]
              simp only [gl, gl3, if_pos (show ((0 : Int) = 0) from rfl), reduceIte]
              refine ⟨B, now, ?_, ?_, h1, h2, h6, h7, h8⟩
              · cases n with
                | zero => rfl
                | succ n => rw [w_X4_fallsOn_26_s, if_pos rfl]
              · cases n with
                | zero => rfl
                | succ n => rw [w_X9_fallsTo_26_s, if_pos rfl]
            · rw [if_pos ((sto0 _ _).mpr (by rw [(hR q hq.1 c2).1]; exact st)), if_pos ((dst0 _ _).mpr st)]
              simp only [gl, gl3, if_neg (show ¬ ((1 : Int) = 0) by decide)]
              refine ih (ior B (ishl 1 q)) q 0 (q + c) oX 1 (ior_16 h1.1 h1.2 (shl_rg hq).1 (shl_rg hq).2) hq (by omega) (by omega) ⟨fun z => absurd z o1, fun z => by
                rcases z with z | z
                · exact absurd z (by decide)
                · exfalso; omega⟩ (fun z => by have := h6 z; rw [z] at h4; omega) (fun z => by have := h7 z; rw [z] at h4; omega) (fun z z0 z1 => ?_) (fun z z0 z1 z2 => by unfold BHD at z2; rcases hc with rfl | rfl <;> omega)
              rw [bit_or h1 (shl_rg hq) ⟨z0, z1⟩, bit_shl hq ⟨z0, z1⟩, h8 z z0 z1]
              rcases hc with rfl | rfl
              · have h6' := h6 rfl
                constructor
                · intro w
                  rcases w with ⟨w1, w2⟩ | w
                  · exact ⟨w1, by unfold BHD at w2 ⊢; omega⟩
                  · exact ⟨by rw [w]; exact hb, by unfold BHD; omega⟩
                · intro w
                  obtain ⟨w1, w2⟩ := w
                  by_cases e1 : z = q
                  · exact Or.inr e1
                  · by_cases e2 : z ≤ now
                    · exact Or.inl ⟨w1, by unfold BHD at w2 ⊢; omega⟩
                    · exact absurd w1 (h9 z z0 z1 (by unfold BHD at w2 ⊢; omega))
              · have h7' := h7 rfl
                constructor
                · intro w
                  rcases w with ⟨w1, w2⟩ | w
                  · exact ⟨w1, by unfold BHD at w2 ⊢; omega⟩
                  · exact ⟨by rw [w]; exact hb, by unfold BHD; omega⟩
                · intro w
                  obtain ⟨w1, w2⟩ := w
                  by_cases e1 : z = q
                  · exact Or.inr e1
                  · by_cases e2 : now ≤ z
                    · exact Or.inl ⟨w1, by unfold BHD at w2 ⊢; omega⟩
                    · exact absurd w1 (h9 z z0 z1 (by unfold BHD at w2 ⊢; omega))
        · rw [if_neg c2, if_neg (by omega)]
          exact ⟨B, now, rfl, rfl, h1, h2, h6, h7, h8⟩
theorem fall_two {s t : gMem} {c x p : Int} (hR : RLpl s t) (hc : c = 1 ∨ c = -1) (hx : 0 ≤ x ∧ x ≤ 65535) (hp : 0 ≤ p ∧ p ≤ 15) (hre : 0 ≤ t 2 3) : (0 ≤ f_X4_fallsOn p c x (t 2 3) s ∧ f_X4_fallsOn p c x (t 2 3) s ≤ 65535) ∧ (0 ≤ f_X9_fallsTo p c x t ∧ f_X9_fallsTo p c x t ≤ 15) ∧ (c = 1 → p ≤ f_X9_fallsTo p c x t) ∧ (c = -1 → f_X9_fallsTo p c x t ≤ p) ∧ ∀ z, 0 ≤ z → z ≤ 15 → (bitS (f_X4_fallsOn p c x (t 2 3) s) z ↔ bitS x z ∧ BHD c p (f_X9_fallsTo p c x t) z) := by
  have e1 : (if f_X4_stops p s = 0 then (1 : Int) else 0) = (if f_X9_doesStop p t = 0 then 1 else 0) := by
    by_cases z : t 0 p = 4
    · rw [if_neg (fun q => (sto0 _ _).mp q (by rw [(hR p hp.1 (by omega)).1]; exact z)), if_neg (fun q => (dst0 _ _).mp q z)]
    · rw [if_pos ((sto0 _ _).mpr (by rw [(hR p hp.1 (by omega)).1]; exact z)), if_pos ((dst0 _ _).mpr z)]
  obtain ⟨B, F, b1, b2, b3, b4, b5, b6, b7⟩ := fall_joint (c := c) (x := x) (p := p) hR hc hx hp rfl 34 0 p 0 (p + c) (if f_X4_stops p s = 0 then 1 else 0) (if f_X9_doesStop p t = 0 then 1 else 0) (by omega) hp (by omega) (by omega) (by
    rw [e1]
    exact ⟨fun q => Or.inl q, fun q => q.resolve_right (by omega)⟩) (fun _ => by omega) (fun _ => by omega) (fun z z0 z1 => ⟨fun q => absurd q (zer z z0 z1), fun q => by
      have := q.2
      unfold BHD at this
      exfalso; omega⟩) (fun z z0 z1 z2 => by
      unfold BHD at z2
      exfalso
      rcases hc with rfl | rfl <;> omega)
  have f1 : f_X4_fallsOn p c x (t 2 3) s = B := by
    rw [← b1]; rfl
  have f2 : f_X9_fallsTo p c x t = F := by
    rw [← b2]; rfl
  rw [f1, f2]
  exact ⟨b3, b4, b5, b6, b7⟩
theorem pushed_eq {s t : gMem} (hR : RLpl s t) {x p sd : Int} (hx : x = t 2 1) (hs : s 60 0 = t 2 1) (h16 : 0 ≤ t 2 1 ∧ t 2 1 ≤ 65535) (hp : 0 ≤ p ∧ p ≤ 15) (hre : 0 ≤ t 2 3) (hsd : 0 ≤ sd ∧ sd ≤ 2) : f_X4_pushed p sd (t 2 3) s = f_X9_pushed p sd t ∧ 0 ≤ f_X9_pushed p sd t ∧ f_X9_pushed p sd t ≤ 65535 := by
  obtain ⟨a1, a2, a3, a4, a5⟩ := fall_two (c := 1) (x := t 2 1) hR (Or.inl rfl) h16 hp hre
  obtain ⟨c1, c2, c3, c4, c5⟩ := fall_two (c := -1) (x := t 2 1) hR (Or.inr rfl) h16 hp hre
  have a3' := a3 rfl
  have c4' := c4 rfl
  have hsp := shl_rg hp
  unfold f_X4_pushed f_X9_pushed
  rw [hs]
  by_cases d : f_X8_has (t 2 1) p = 0
  · rw [if_pos d, if_pos (show f_X9_isIn (t 2 1) p = 0 from d)]
    exact ⟨rfl, by omega, by omega⟩
  · rw [if_neg d, if_neg (show ¬ f_X9_isIn (t 2 1) p = 0 from d)]
    have hb : bitS (t 2 1) p := Classical.byContradiction fun z => d ((has0 _ _).mpr z)
    simp only [gl]
    have hq : sd = 0 ∨ sd = 1 ∨ sd = 2 := by omega
    have o1 := ior_16 hsp.1 hsp.2 a1.1 a1.2
    have o2 := ior_16 hsp.1 hsp.2 c1.1 c1.2
    have o3 := ior_16 o1.1 o1.2 c1.1 c1.2
    rcases hq with rfl | rfl | rfl
    · simp only [if_neg (show ¬ ((0 : Int) = 2) by decide), if_neg (show ¬ ((0 : Int) = 1) by decide)]
      obtain ⟨m1, m2, m3⟩ := btw_bits (a := f_X9_fallsTo p (-1) (t 2 1) t) (b := f_X9_fallsTo p 1 (t 2 1) t) h16 (by omega) (by omega)
      refine ⟨ext16 o3 ⟨m1, m2⟩ (fun i i0 i1 => ?_), m1, m2⟩
      rw [bit_or o1 c1 ⟨i0, by omega⟩, bit_or hsp a1 ⟨i0, by omega⟩, bit_shl hp ⟨i0, by omega⟩, a5 i i0 (by omega), c5 i i0 (by omega), m3 i i0 (by omega)]
      unfold BHD
      constructor
      · intro q
        rcases q with (q | q) | q
        · rw [q]; exact ⟨by omega, by omega, hb⟩
        · exact ⟨by omega, by omega, q.1⟩
        · exact ⟨by omega, by omega, q.1⟩
      · intro q
        by_cases e : i = p
        · exact Or.inl (Or.inl e)
        · by_cases e2 : p < i
          · exact Or.inl (Or.inr ⟨q.2.2, by omega⟩)
          · exact Or.inr ⟨q.2.2, by omega⟩
    · simp only [if_neg (show ¬ ((1 : Int) = 2) by decide), if_pos (show ((1 : Int) = 1) from rfl), reduceIte]
      obtain ⟨m1, m2, m3⟩ := btw_bits (a := p) (b := f_X9_fallsTo p 1 (t 2 1) t) h16 (by omega) (by omega)
      refine ⟨ext16 o1 ⟨m1, m2⟩ (fun i i0 i1 => ?_), m1, m2⟩
      rw [bit_or hsp a1 ⟨i0, by omega⟩, bit_shl hp ⟨i0, by omega⟩, a5 i i0 (by omega), m3 i i0 (by omega)]
      unfold BHD
      constructor
      · intro q
        rcases q with q | q
        · rw [q]; exact ⟨by omega, by omega, hb⟩
        · exact ⟨by omega, by omega, q.1⟩
      · intro q
        by_cases e : i = p
        · exact Or.inl e
        · exact Or.inr ⟨q.2.2, by omega⟩
    · simp only [if_pos (show ((2 : Int) = 2) from rfl), if_neg (show ¬ ((2 : Int) = 1) by decide), reduceIte]
      obtain ⟨m1, m2, m3⟩ := btw_bits (a := f_X9_fallsTo p (-1) (t 2 1) t) (b := p) h16 (by omega) (by omega)
      refine ⟨ext16 o2 ⟨m1, m2⟩ (fun i i0 i1 => ?_), m1, m2⟩
      rw [bit_or hsp c1 ⟨i0, by omega⟩, bit_shl hp ⟨i0, by omega⟩, c5 i i0 (by omega), m3 i i0 (by omega)]
      unfold BHD
      constructor
      · intro q
        rcases q with q | q
        · rw [q]; exact ⟨by omega, by omega, hb⟩
        · exact ⟨by omega, by omega, q.1⟩
      · intro q
        by_cases e : i = p
        · exact Or.inl e
        · exact Or.inr ⟨q.2.2, by omega⟩
