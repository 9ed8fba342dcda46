/-! best -/
theorem gl5_v {A B C F G β : Type} (x : A × B × C × F × G) (k : A → B → C → F → G → β) : gl5 x k = k x.1 x.2.1 x.2.2.1 x.2.2.2.1 x.2.2.2.2 := rfl
theorem gc_zero : gc 0 16 = 0 := by
  have main : ∀ n : Nat, n ≤ 16 → gc 0 (n : Int) = 0 := by
    intro n
    induction n with
    | zero => intro _; rfl
    | succ n ih =>
      intro h
      have e : ((n + 1 : Nat) : Int) = (n : Int) + 1 := by omega
      rw [e, gc_n (by omega) (zer (n : Int) (by omega) (by omega))]
      exact ih (by omega)
  exact main 16 (by omega)
theorem EQ_best {s t : gMem} (h : INV s t) {x0 x1 : Int} (hx0 : in32 x0) (hx1 : in32 x1) : (f_X8_best x0 x1 s).1 = (f_X9_best x0 x1 t).1 ∧ INV (f_X8_best x0 x1 s).2 (f_X9_best x0 x1 t).2 := by
  obtain ⟨fx, hX'⟩ := XI_best h.2.1 hx0 hx1
  obtain ⟨fm, hM'⟩ := MI_best h.2.2.1 hx0 hx1
  have key : (f_X8_best x0 x1 s).1 = (f_X9_best x0 x1 t).1 ∧ XT (f_X8_best x0 x1 s).2 t := by
    unfold f_X8_best f_X9_best
    rw [if_out, if_out, if_in, if_in]
    by_cases a : 0 ≤ x0 ∧ x0 < 5
    · rw [if_pos a, if_pos (show 0 ≤ x0 ∧ x0 ≤ 4 by omega)]
      by_cases b : 0 ≤ x1 ∧ x1 < 2
      · rw [if_pos b, if_pos (show 0 ≤ x1 ∧ x1 ≤ 1 by omega)]
        have td2 := h.2.2.1.1.2.2.2.2 2
        have hw : 0 ≤ t 2 2 ∧ t 2 2 ≤ 2 := by omega
        have e61 : s 61 0 = t 2 2 := (RLto_t (INV_XT h)).2.2.1
        obtain ⟨s1, e1, f1, X1⟩ := INV_from h hw
        obtain ⟨S, hS⟩ : ∃ S, S = mset (mset (mset s1 68 0 0) 69 0 (-1)) 70 0 (-1) := ⟨_, rfl⟩
        have fS : fr [68, 69, 70] s1 S := by rw [hS]; exact (((fr.rf _ s1).set (by decide)).set (by decide)).set (by decide)
        have gS : gMR lgX S := by rw [hS]; exact ((X1.1.2.1.1.set32 rfl (by omega)).set64 rfl (by omega)).set64 rfl (by omega)
        have eB : f_X1_begin s1 = (0, S) := by rw [hS]; rfl
        obtain ⟨hR, ⟨i1, i2, i3, i4, i5, i6, i7, i8, i9, i10, i11, i12, i13⟩, hM, c1, c2, c3⟩ := id X1.1
        have XS : XT S t := XT_fr X1.1 fS (by decide) gS (KF_fr i11 (frK fS (by decide))) (KC_fr i12 (frK fS (by decide))) (KT_fr i13 (frK fS (by decide))) (CFf_fr c1 (fS 37 (by decide))) (CFc_fr c2 (fS 38 (by decide))) (CFt_fr c3 (fS 39 (by decide)))
        have B0 : BSX (MV t (t 2 2)) (fun y => (0 ≤ y ∧ y ≤ 65535) ∧ gc y 16 < 0) S := Or.inl ⟨by rw [hS]; simp [mset], fun y hy => by have := gc_nn y 16; omega⟩
        obtain ⟨u, s2, q1, q2, q3⟩ := siz_X (INV_MQ h) hw (c := x0) (by omega) 7 0 S (XM_fr X1 XS fS (by decide)) B0 (by omega) (by omega) (by omega)
        obtain ⟨T1, m1, M1, Q1, g1⟩ := M_mean (w := t 2 2) (x := 0) (INV_XT h) (INV_KM h) (INV_WY h) (MT.rf (INV_gM h)) (INV_MQ h) (INV_MQ h) (by omega) hw
        have o0 : f_X9_ones 0 = 0 := by rw [ones_gc]; exact gc_zero
        have hb0 : BEST (MV t (t 2 2)) (fun y => 0 ≤ y ∧ y < 1 ∧ gc y 16 ≤ x0) 0 := ⟨⟨by omega, by omega, by rw [gc_zero]; exact a.1⟩, fun y hy hne => absurd (by have := hy.1; have := hy.2.1; omega) hne⟩
        obtain ⟨B, o, u2, T2, r1, r2, r3⟩ := best_M (INV_XT h) (INV_KM h) (INV_WY h) (INV_MQ h) (c1 := x0) (c2 := x1) rfl hw 65536 1 0 T1 M1 Q1 (by omega) (by omega) hb0 (by omega)
        rw [o0] at r1
        have eT : f_X1_trySizes x0 S = (0, s2) := by
          unfold f_X1_trySizes
          rw [q1]
          rfl
        rw [e61, gb_eq e1, gb_eq eB, gb_eq eT, gb_eq m1, r1, gl5_v]
        rcases q3 with ⟨z1, z2⟩ | ⟨z1, z2, z3⟩
        · exact absurd ⟨⟨by omega, by omega⟩, by rw [gc_zero]; omega⟩ (z2 0)
        · have eb : s2 69 0 = B := BEST_u z2 r2 (fun y => ⟨fun z => ⟨z.1.1, by have := z.1.2; omega, by have := z.2; omega⟩, fun z => ⟨⟨z.1, by have := z.2.1; omega⟩, by have := z.2.2; omega⟩⟩)
          unfold f_X1_answer
          by_cases y : x1 = 0
          · rw [if_pos y, if_pos y]; exact ⟨eb, q2.1⟩
          · rw [if_neg y, if_neg y]
            refine ⟨?_, q2.1⟩
            show s2 70 0 = MV t (t 2 2) B
            rw [z3, eb]
      · rw [if_neg b, if_neg (show ¬ (0 ≤ x1 ∧ x1 ≤ 1) by omega)]; exact ⟨rfl, INV_XT h⟩
    · rw [if_neg a, if_neg (show ¬ (0 ≤ x0 ∧ x0 ≤ 4) by omega)]; exact ⟨rfl, INV_XT h⟩
  exact ⟨key.1, INV_scr h fx fm (by decide) (by decide) hX' hM' key.2⟩
