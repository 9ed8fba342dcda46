/-! reading an E: the class's levels, all depths -/
def opc (k c : Int) : Int → Int := fun x => if x = k then c else 0
def opS : Int → Int := fun x => if x = 43 then -11 else if x = 45 then -12 else 0
theorem opc_0 {k c x : Int} (hc : ¬ c = 0) : opc k c x = 0 ↔ ¬ x = k := by
  unfold opc
  by_cases h : x = k
  · rw [if_pos h]; exact ⟨fun z => absurd z hc, fun z => absurd h z⟩
  · rw [if_neg h]; exact ⟨fun _ => h, fun _ => rfl⟩
theorem W1 {k c : Int} (hc : ¬ c = 0) {G : gMem → gRes} {W : Nat → Int → gMem → Int × gMem} (h : ∀ n v s, W (n + 1) v s = if v < 160 then (if (s 55 0) = k then gb (f_X3_next s) (fun _ a => gb (G a) (fun _ b => gb (f_X3_emit c b) (fun _ e => W n (v + 1) e))) else (v, s)) else (v, s)) : ∀ n v s, W (n + 1) v s = if v < 160 then (if opc k c (s 55 0) = 0 then (v, s) else gb (f_X3_next s) (fun _ a => gb (G a) (fun _ b => gb (f_X3_emit (opc k c (s 55 0)) b) (fun _ e => W n (v + 1) e)))) else (v, s) := fun n v s => by
  rw [h]
  by_cases y : s 55 0 = k
  · have e : opc k c (s 55 0) = c := by unfold opc; rw [if_pos y]
    rw [if_pos y, e, if_neg hc]
  · have e : opc k c (s 55 0) = 0 := by unfold opc; rw [if_neg y]
    rw [if_neg y, e, if_pos rfl]
theorem TERM {F G : gMem → gRes} {W : Nat → Int → gMem → Int × gMem} {d : Int} (hF : ∀ s, F s = gb (G s) (fun _ a => gl2 (W 161 0 a) (fun _ b => (0, b)))) (h : ∀ n v s, W (n + 1) v s = if v < 160 then (if (s 55 0) = 42 then gb (f_X3_next s) (fun _ a => gb (G a) (fun _ b => gb (f_X3_emit (-13) b) (fun _ e => W n (v + 1) e))) else (v, s)) else (v, s)) (hG : SIM G 7 7 d) : SIM F 6 6 d := by
  refine LEVEL hF (W1 (by decide) h) (by decide) (fun s T t hs => ?_) hG (by decide) (by decide) (by decide) (by decide) (fun s T hh t hs hN => ?_)
  · have y : s 55 0 = 42 := Classical.byContradiction fun z => hs ((opc_0 (by decide)).mpr z)
    have z := (tok_i t 42 (by decide)).mp y
    have e : f_X9_signOf T = 18 := by unfold f_X9_signOf; rw [z]; decide
    rw [e, y]
    refine ⟨by omega, by omega, by omega, by decide, by decide, by decide, by decide, by decide, by decide⟩
  · have y := (opc_0 (by decide)).mp hs
    have z := tok_i t 42 (by decide)
    exact ⟨fun _ q => y (z.mpr q), fun q => absurd q (by decide), fun q => absurd q (by decide), fun q => absurd q (by decide), fun q => absurd q (by decide)⟩
theorem SUM {F G : gMem → gRes} {W : Nat → Int → gMem → Int × gMem} {d : Int} (hF : ∀ s, F s = gb (G s) (fun _ a => gl2 (W 161 0 a) (fun _ b => (0, b)))) (h : ∀ n v s, W (n + 1) v s = if v < 160 then (gj (fun j12c => (if (s 55 0) = 43 then j12c else (if (s 55 0) = 45 then j12c else (v, s)))) ((gl ((if (s 55 0) = 43 then (-11) else (-12))) (fun v16 => gb (f_X3_next s) (fun _ a => gb (G a) (fun _ b => gb (f_X3_emit v16 b) (fun _ e => W n (v + 1) e))))))) else (v, s)) (hG : SIM G 6 6 d) : SIM F 5 5 d := by
  have hW : ∀ n v s, W (n + 1) v s = if v < 160 then (if opS (s 55 0) = 0 then (v, s) else gb (f_X3_next s) (fun _ a => gb (G a) (fun _ b => gb (f_X3_emit (opS (s 55 0)) b) (fun _ e => W n (v + 1) e)))) else (v, s) := fun n v s => by
    rw [h, gj_v, gl_v]
    by_cases y : s 55 0 = 43
    · have e : opS (s 55 0) = -11 := by rw [y]; decide
      rw [if_pos y, if_pos y, e, if_neg (show ¬ (-11 : Int) = 0 by decide)]
    · by_cases y2 : s 55 0 = 45
      · have e : opS (s 55 0) = -12 := by rw [y2]; decide
        rw [if_neg y, if_neg y, if_pos y2, e, if_neg (show ¬ (-12 : Int) = 0 by decide)]
      · have e : opS (s 55 0) = 0 := by unfold opS; rw [if_neg y, if_neg y2]
        rw [if_neg y, if_neg y2, e, if_pos rfl]
  have ops : ∀ x, ¬ opS x = 0 ↔ x = 43 ∨ x = 45 := fun x => by
    unfold opS
    by_cases y : x = 43
    · rw [if_pos y]; exact ⟨fun _ => Or.inl y, fun _ => by decide⟩
    · rw [if_neg y]
      by_cases y2 : x = 45
      · rw [if_pos y2]; exact ⟨fun _ => Or.inr y2, fun _ => by decide⟩
      · rw [if_neg y2]; exact ⟨fun z => absurd rfl z, fun z => by omega⟩
  refine LEVEL hF hW (by decide) (fun s T t hs => ?_) hG (by decide) (by decide) (by decide) (by decide) (fun s T hh t hs hN => ?_)
  · rcases (ops _).mp hs with y | y
    · have z := (tok_i t 43 (by decide)).mp y
      have e : f_X9_signOf T = 16 := by unfold f_X9_signOf; rw [z]; decide
      rw [e, y]
      exact ⟨by omega, by omega, by omega, by decide, by decide, by decide, by decide, by decide, by decide⟩
    · have z := (tok_i t 45 (by decide)).mp y
      have e : f_X9_signOf T = 17 := by unfold f_X9_signOf; rw [z]; decide
      rw [e, y]
      exact ⟨by omega, by omega, by omega, by decide, by decide, by decide, by decide, by decide, by decide⟩
  · have y1 : ¬ s 55 0 = 43 := fun q => (ops _).mpr (Or.inl q) hs
    have y2 : ¬ s 55 0 = 45 := fun q => (ops _).mpr (Or.inr q) hs
    have z1 := tok_i t 43 (by decide)
    have z2 := tok_i t 45 (by decide)
    exact ⟨fun _ => hN.1 (by decide), fun _ => ⟨fun q => y1 (z1.mpr q), fun q => y2 (z2.mpr q)⟩, fun q => absurd q (by decide), fun q => absurd q (by decide), fun q => absurd q (by decide)⟩
theorem ANDL {F G : gMem → gRes} {W : Nat → Int → gMem → Int × gMem} {d : Int} (hF : ∀ s, F s = gb (G s) (fun _ a => gl2 (W 161 0 a) (fun _ b => (0, b)))) (h : ∀ n v s, W (n + 1) v s = if v < 160 then (if (s 55 0) = 260 then gb (f_X3_next s) (fun _ a => gb (G a) (fun _ b => gb (f_X3_emit (-8) b) (fun _ e => W n (v + 1) e))) else (v, s)) else (v, s)) (hG : SIM G 4 3 d) : SIM F 2 2 d := by
  refine LEVEL hF (W1 (by decide) h) (by decide) (fun s T t hs => ?_) hG (by decide) (by decide) (by decide) (by decide) (fun s T hh t hs hN => ?_)
  · have y : s 55 0 = 260 := Classical.byContradiction fun z => hs ((opc_0 (by decide)).mpr z)
    have kt := t.2.2.2
    have z : T 18 0 = 5 := by omega
    have e : f_X9_signOf T = 12 := by unfold f_X9_signOf; rw [z]; decide
    rw [e, y]
    exact ⟨by omega, by omega, by omega, by decide, by decide, by decide, by decide, by decide, by decide⟩
  · have y := (opc_0 (by decide)).mp hs
    have kt := t.2.2.2
    exact ⟨fun _ => hN.1 (by decide), fun _ => hN.2.1 (by decide), fun _ => hN.2.2.1 (by decide), fun _ => by omega, fun q => absurd q (by decide)⟩
theorem ORL {F G : gMem → gRes} {W : Nat → Int → gMem → Int × gMem} {d : Int} (hF : ∀ s, F s = gb (G s) (fun _ a => gl2 (W 161 0 a) (fun _ b => (0, b)))) (h : ∀ n v s, W (n + 1) v s = if v < 160 then (if (s 55 0) = 259 then gb (f_X3_next s) (fun _ a => gb (G a) (fun _ b => gb (f_X3_emit (-7) b) (fun _ e => W n (v + 1) e))) else (v, s)) else (v, s)) (hG : SIM G 2 2 d) : SIM F 1 1 d := by
  refine LEVEL hF (W1 (by decide) h) (by decide) (fun s T t hs => ?_) hG (by decide) (by decide) (by decide) (by decide) (fun s T hh t hs hN => ?_)
  · have y : s 55 0 = 259 := Classical.byContradiction fun z => hs ((opc_0 (by decide)).mpr z)
    have kt := t.2.2.2
    have z : T 18 0 = 4 := by omega
    have e : f_X9_signOf T = 11 := by unfold f_X9_signOf; rw [z]; decide
    rw [e, y]
    exact ⟨by omega, by omega, by omega, by decide, by decide, by decide, by decide, by decide, by decide⟩
  · have y := (opc_0 (by decide)).mp hs
    have kt := t.2.2.2
    exact ⟨fun _ => hN.1 (by decide), fun _ => hN.2.1 (by decide), fun _ => hN.2.2.1 (by decide), fun _ => hN.2.2.2.1 (by decide), fun _ => by omega⟩
theorem RA_0 (x : Int) (hx : x = 5) : SIM1 (f_X3_readOne_0 x) x ∧ SIM (f_X3_readNot_0 x) 4 3 x ∧ SIM (f_X3_readOr_0 x) 1 1 x := by
  have o : SIM1 (f_X3_readOne_0 x) x := ONE (F := f_X3_readOne_0 x) (br := fun s => (0, s)) (G := fun s => (0, s)) (O := fun s => (0, s)) (d := x) (by omega) (fun s => rfl) (fun z => absurd z (by omega))
  have t : SIM (f_X3_readTerm_0 x) 6 6 x := TERM (fun s => f_X3_readTerm_0_e x s) (fun n v s => w_X3_readTerm_0_7_s x n v s) (ONE_0 o)
  have u : SIM (f_X3_readSum_0 x) 5 5 x := SUM (fun s => f_X3_readSum_0_e x s) (fun n v s => w_X3_readSum_0_7_s x n v s) t
  have c : SIM (f_X3_readCompared_0 x) 4 4 x := COMP (S := f_X3_readSum_0 x) (fun s => rfl) u
  have n : SIM (f_X3_readNot_0 x) 4 3 x := NOT (F := f_X3_readNot_0 x) (br := fun s => (0, s)) (G := fun s => (0, s)) (C := f_X3_readCompared_0 x) (d := x) (by omega) (fun s => rfl) (fun z => absurd z (by omega)) c
  have a : SIM (f_X3_readAnd_0 x) 2 2 x := ANDL (fun s => f_X3_readAnd_0_e x s) (fun n v s => w_X3_readAnd_0_7_s x n v s) n
  exact ⟨o, n, ORL (fun s => f_X3_readOr_0_e x s) (fun n v s => w_X3_readOr_0_7_s x n v s) a⟩
theorem RA_1 (x : Int) (hx : x = 4) : SIM1 (f_X3_readOne_1 x) x ∧ SIM (f_X3_readNot_1 x) 4 3 x ∧ SIM (f_X3_readOr_1 x) 1 1 x := by
  have i := RA_0 (x + 1) (by omega)
  have o : SIM1 (f_X3_readOne_1 x) x := ONE (F := f_X3_readOne_1 x) (G := f_X3_readOne_0 (x + 1)) (O := f_X3_readOr_0 (x + 1)) (br := fun s => (if (s 55 0) = 45 then gb (f_X3_next s) (fun _ s31 => gb (f_X3_readOne_0 (x + 1) s31) (fun _ s36 => gb (f_X3_emit (-15) s36) (fun _ s41 => (0, s41)))) else gb (f_X3_next s) (fun _ s46 => gb (f_X3_readOr_0 (x + 1) s46) (fun _ s51 => gb (f_X3_want 41 s51) (fun _ s56 => (0, s56)))))) (d := x) (by omega) (fun s => rfl) (fun _ => ⟨fun s => rfl, i.1, i.2.2⟩)
  have t : SIM (f_X3_readTerm_1 x) 6 6 x := TERM (fun s => f_X3_readTerm_1_e x s) (fun n v s => w_X3_readTerm_1_7_s x n v s) (ONE_0 o)
  have u : SIM (f_X3_readSum_1 x) 5 5 x := SUM (fun s => f_X3_readSum_1_e x s) (fun n v s => w_X3_readSum_1_7_s x n v s) t
  have c : SIM (f_X3_readCompared_1 x) 4 4 x := COMP (S := f_X3_readSum_1 x) (fun s => rfl) u
  have n : SIM (f_X3_readNot_1 x) 4 3 x := NOT (F := f_X3_readNot_1 x) (G := f_X3_readNot_0 (x + 1)) (br := fun s => gb (f_X3_next s) (fun _ s6 => gb (f_X3_readNot_0 (x + 1) s6) (fun _ s11 => gb (f_X3_emit (-14) s11) (fun _ s16 => (0, s16))))) (C := f_X3_readCompared_1 x) (d := x) (by omega) (fun s => rfl) (fun _ => ⟨fun s => rfl, i.2.1⟩) c
  have a : SIM (f_X3_readAnd_1 x) 2 2 x := ANDL (fun s => f_X3_readAnd_1_e x s) (fun n v s => w_X3_readAnd_1_7_s x n v s) n
  exact ⟨o, n, ORL (fun s => f_X3_readOr_1_e x s) (fun n v s => w_X3_readOr_1_7_s x n v s) a⟩
theorem RA_2 (x : Int) (hx : x = 3) : SIM1 (f_X3_readOne_2 x) x ∧ SIM (f_X3_readNot_2 x) 4 3 x ∧ SIM (f_X3_readOr_2 x) 1 1 x := by
  have i := RA_1 (x + 1) (by omega)
  have o : SIM1 (f_X3_readOne_2 x) x := ONE (F := f_X3_readOne_2 x) (G := f_X3_readOne_1 (x + 1)) (O := f_X3_readOr_1 (x + 1)) (br := fun s => (if (s 55 0) = 45 then gb (f_X3_next s) (fun _ s31 => gb (f_X3_readOne_1 (x + 1) s31) (fun _ s36 => gb (f_X3_emit (-15) s36) (fun _ s41 => (0, s41)))) else gb (f_X3_next s) (fun _ s46 => gb (f_X3_readOr_1 (x + 1) s46) (fun _ s51 => gb (f_X3_want 41 s51) (fun _ s56 => (0, s56)))))) (d := x) (by omega) (fun s => rfl) (fun _ => ⟨fun s => rfl, i.1, i.2.2⟩)
  have t : SIM (f_X3_readTerm_2 x) 6 6 x := TERM (fun s => f_X3_readTerm_2_e x s) (fun n v s => w_X3_readTerm_2_7_s x n v s) (ONE_0 o)
  have u : SIM (f_X3_readSum_2 x) 5 5 x := SUM (fun s => f_X3_readSum_2_e x s) (fun n v s => w_X3_readSum_2_7_s x n v s) t
  have c : SIM (f_X3_readCompared_2 x) 4 4 x := COMP (S := f_X3_readSum_2 x) (fun s => rfl) u
  have n : SIM (f_X3_readNot_2 x) 4 3 x := NOT (F := f_X3_readNot_2 x) (G := f_X3_readNot_1 (x + 1)) (br := fun s => gb (f_X3_next s) (fun _ s6 => gb (f_X3_readNot_1 (x + 1) s6) (fun _ s11 => gb (f_X3_emit (-14) s11) (fun _ s16 => (0, s16))))) (C := f_X3_readCompared_2 x) (d := x) (by omega) (fun s => rfl) (fun _ => ⟨fun s => rfl, i.2.1⟩) c
  have a : SIM (f_X3_readAnd_2 x) 2 2 x := ANDL (fun s => f_X3_readAnd_2_e x s) (fun n v s => w_X3_readAnd_2_7_s x n v s) n
  exact ⟨o, n, ORL (fun s => f_X3_readOr_2_e x s) (fun n v s => w_X3_readOr_2_7_s x n v s) a⟩
theorem RA_3 (x : Int) (hx : x = 2) : SIM1 (f_X3_readOne_3 x) x ∧ SIM (f_X3_readNot_3 x) 4 3 x ∧ SIM (f_X3_readOr_3 x) 1 1 x := by
  have i := RA_2 (x + 1) (by omega)
  have o : SIM1 (f_X3_readOne_3 x) x := ONE (F := f_X3_readOne_3 x) (G := f_X3_readOne_2 (x + 1)) (O := f_X3_readOr_2 (x + 1)) (br := fun s => (if (s 55 0) = 45 then gb (f_X3_next s) (fun _ s31 => gb (f_X3_readOne_2 (x + 1) s31) (fun _ s36 => gb (f_X3_emit (-15) s36) (fun _ s41 => (0, s41)))) else gb (f_X3_next s) (fun _ s46 => gb (f_X3_readOr_2 (x + 1) s46) (fun _ s51 => gb (f_X3_want 41 s51) (fun _ s56 => (0, s56)))))) (d := x) (by omega) (fun s => rfl) (fun _ => ⟨fun s => rfl, i.1, i.2.2⟩)
  have t : SIM (f_X3_readTerm_3 x) 6 6 x := TERM (fun s => f_X3_readTerm_3_e x s) (fun n v s => w_X3_readTerm_3_7_s x n v s) (ONE_0 o)
  have u : SIM (f_X3_readSum_3 x) 5 5 x := SUM (fun s => f_X3_readSum_3_e x s) (fun n v s => w_X3_readSum_3_7_s x n v s) t
  have c : SIM (f_X3_readCompared_3 x) 4 4 x := COMP (S := f_X3_readSum_3 x) (fun s => rfl) u
  have n : SIM (f_X3_readNot_3 x) 4 3 x := NOT (F := f_X3_readNot_3 x) (G := f_X3_readNot_2 (x + 1)) (br := fun s => gb (f_X3_next s) (fun _ s6 => gb (f_X3_readNot_2 (x + 1) s6) (fun _ s11 => gb (f_X3_emit (-14) s11) (fun _ s16 => (0, s16))))) (C := f_X3_readCompared_3 x) (d := x) (by omega) (fun s => rfl) (fun _ => ⟨fun s => rfl, i.2.1⟩) c
  have a : SIM (f_X3_readAnd_3 x) 2 2 x := ANDL (fun s => f_X3_readAnd_3_e x s) (fun n v s => w_X3_readAnd_3_7_s x n v s) n
  exact ⟨o, n, ORL (fun s => f_X3_readOr_3_e x s) (fun n v s => w_X3_readOr_3_7_s x n v s) a⟩
theorem RA_4 (x : Int) (hx : x = 1) : SIM1 (f_X3_readOne_4 x) x ∧ SIM (f_X3_readNot_4 x) 4 3 x ∧ SIM (f_X3_readOr_4 x) 1 1 x := by
  have i := RA_3 (x + 1) (by omega)
  have o : SIM1 (f_X3_readOne_4 x) x := ONE (F := f_X3_readOne_4 x) (G := f_X3_readOne_3 (x + 1)) (O := f_X3_readOr_3 (x + 1)) (br := fun s => (if (s 55 0) = 45 then gb (f_X3_next s) (fun _ s31 => gb (f_X3_readOne_3 (x + 1) s31) (fun _ s36 => gb (f_X3_emit (-15) s36) (fun _ s41 => (0, s41)))) else gb (f_X3_next s) (fun _ s46 => gb (f_X3_readOr_3 (x + 1) s46) (fun _ s51 => gb (f_X3_want 41 s51) (fun _ s56 => (0, s56)))))) (d := x) (by omega) (fun s => rfl) (fun _ => ⟨fun s => rfl, i.1, i.2.2⟩)
  have t : SIM (f_X3_readTerm_4 x) 6 6 x := TERM (fun s => f_X3_readTerm_4_e x s) (fun n v s => w_X3_readTerm_4_7_s x n v s) (ONE_0 o)
  have u : SIM (f_X3_readSum_4 x) 5 5 x := SUM (fun s => f_X3_readSum_4_e x s) (fun n v s => w_X3_readSum_4_7_s x n v s) t
  have c : SIM (f_X3_readCompared_4 x) 4 4 x := COMP (S := f_X3_readSum_4 x) (fun s => rfl) u
  have n : SIM (f_X3_readNot_4 x) 4 3 x := NOT (F := f_X3_readNot_4 x) (G := f_X3_readNot_3 (x + 1)) (br := fun s => gb (f_X3_next s) (fun _ s6 => gb (f_X3_readNot_3 (x + 1) s6) (fun _ s11 => gb (f_X3_emit (-14) s11) (fun _ s16 => (0, s16))))) (C := f_X3_readCompared_4 x) (d := x) (by omega) (fun s => rfl) (fun _ => ⟨fun s => rfl, i.2.1⟩) c
  have a : SIM (f_X3_readAnd_4 x) 2 2 x := ANDL (fun s => f_X3_readAnd_4_e x s) (fun n v s => w_X3_readAnd_4_7_s x n v s) n
  exact ⟨o, n, ORL (fun s => f_X3_readOr_4_e x s) (fun n v s => w_X3_readOr_4_7_s x n v s) a⟩
theorem RA_5 (x : Int) (hx : x = 0) : SIM1 (f_X3_readOne_5 x) x ∧ SIM (f_X3_readNot_5 x) 4 3 x ∧ SIM (f_X3_readOr_5 x) 1 1 x := by
  have i := RA_4 (x + 1) (by omega)
  have o : SIM1 (f_X3_readOne_5 x) x := ONE (F := f_X3_readOne_5 x) (G := f_X3_readOne_4 (x + 1)) (O := f_X3_readOr_4 (x + 1)) (br := fun s => (if (s 55 0) = 45 then gb (f_X3_next s) (fun _ s31 => gb (f_X3_readOne_4 (x + 1) s31) (fun _ s36 => gb (f_X3_emit (-15) s36) (fun _ s41 => (0, s41)))) else gb (f_X3_next s) (fun _ s46 => gb (f_X3_readOr_4 (x + 1) s46) (fun _ s51 => gb (f_X3_want 41 s51) (fun _ s56 => (0, s56)))))) (d := x) (by omega) (fun s => rfl) (fun _ => ⟨fun s => rfl, i.1, i.2.2⟩)
  have t : SIM (f_X3_readTerm_5 x) 6 6 x := TERM (fun s => f_X3_readTerm_5_e x s) (fun n v s => w_X3_readTerm_5_7_s x n v s) (ONE_0 o)
  have u : SIM (f_X3_readSum_5 x) 5 5 x := SUM (fun s => f_X3_readSum_5_e x s) (fun n v s => w_X3_readSum_5_7_s x n v s) t
  have c : SIM (f_X3_readCompared_5 x) 4 4 x := COMP (S := f_X3_readSum_5 x) (fun s => rfl) u
  have n : SIM (f_X3_readNot_5 x) 4 3 x := NOT (F := f_X3_readNot_5 x) (G := f_X3_readNot_4 (x + 1)) (br := fun s => gb (f_X3_next s) (fun _ s6 => gb (f_X3_readNot_4 (x + 1) s6) (fun _ s11 => gb (f_X3_emit (-14) s11) (fun _ s16 => (0, s16))))) (C := f_X3_readCompared_5 x) (d := x) (by omega) (fun s => rfl) (fun _ => ⟨fun s => rfl, i.2.1⟩) c
  have a : SIM (f_X3_readAnd_5 x) 2 2 x := ANDL (fun s => f_X3_readAnd_5_e x s) (fun n v s => w_X3_readAnd_5_7_s x n v s) n
  exact ⟨o, n, ORL (fun s => f_X3_readOr_5_e x s) (fun n v s => w_X3_readOr_5_7_s x n v s) a⟩
