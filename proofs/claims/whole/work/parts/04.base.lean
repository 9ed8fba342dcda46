/-! words of the tables, ints as Int, an abstract memory, and the judgement gK with its rows -/
def gBIG : List Cond := lw_tbl.filter goodWord
theorem gm {w : Cond} (h : w ∈ lw_tbl) (hg : goodWord w = true) : w ∈ gBIG := List.mem_filter.mpr ⟨h, hg⟩
theorem gGood (y : Cond) : GoodIn (y :: gBIG) gBIG := fun w h => ⟨List.mem_cons_of_mem _ h, good_of_word (List.mem_filter.mp h).2⟩
theorem gIn (ws : List Cond) (ps : List Nat) (hp : ws = ps.filterMap (fun i => lw_tbl[i]?)) (h : ws.all goodWord = true) : ∀ w ∈ ws, w ∈ gBIG := by
  intro w hw
  have h1 := List.all_eq_true.mp h w hw
  rw [hp] at hw
  obtain ⟨i, -, hi⟩ := List.mem_filterMap.mp hw
  exact gm (List.mem_of_getElem? hi) h1
abbrev gMem : Type := Nat → Int → Int
abbrev gRes : Type := Int × gMem
abbrev gI (z : Int) : Value := .int (Int32.ofInt z)
abbrev gL (z : Int) : Value := .long (Int64.ofInt z)
abbrev in32 (z : Int) : Prop := -2147483648 ≤ z ∧ z < 2147483648
abbrev in64 (z : Int) : Prop := -9223372036854775808 ≤ z ∧ z < 9223372036854775808
def gMR (lg : Nat → Bool) (σ : gMem) : Prop := ∀ k i, (lg k = false → in32 (σ k i)) ∧ (lg k = true → in64 (σ k i))
def mset (σ : gMem) (k : Nat) (i v : Int) : gMem := fun k' => if k' = k then (fun i' => if i' = i then v else σ k i') else σ k'
theorem mset_eq (σ : gMem) (k : Nat) (i v : Int) : mset σ k i v k i = v := by simp [mset]
theorem mset_ne (σ : gMem) (k : Nat) (i v : Int) {k' : Nat} (i' : Int) (h : k' ≠ k) : mset σ k i v k' i' = σ k' i' := by simp [mset, h]
theorem mset_at (σ : gMem) (k : Nat) (i v : Int) (i' : Int) : mset σ k i v k i' = if i' = i then v else σ k i' := by simp [mset]
theorem gMR.set32 {lg : Nat → Bool} {σ : gMem} {k : Nat} {i v : Int} (h : gMR lg σ) (hk : lg k = false) (hv : in32 v) : gMR lg (mset σ k i v) := by
  intro k' i'
  by_cases e : k' = k
  · subst e
    rw [mset_at]
    refine ⟨fun _ => ?_, fun q => absurd (hk.symm.trans q) (by decide)⟩
    split
    · exact hv
    · exact (h _ _).1 hk
  · rw [mset_ne _ _ _ _ _ e]
    exact h k' i'
theorem gMR.set64 {lg : Nat → Bool} {σ : gMem} {k : Nat} {i v : Int} (h : gMR lg σ) (hk : lg k = true) (hv : in64 v) : gMR lg (mset σ k i v) := by
  intro k' i'
  by_cases e : k' = k
  · subst e
    rw [mset_at]
    refine ⟨fun q => absurd (hk.symm.trans q) (by decide), fun _ => ?_⟩
    split
    · exact hv
    · exact (h _ _).2 hk
  · rw [mset_ne _ _ _ _ _ e]
    exact h k' i'
theorem i_eq {x y : Int} (hx : in32 x) (hy : in32 y) : Int32.ofInt x = Int32.ofInt y ↔ x = y := by
  refine ⟨fun h => ?_, fun h => by rw [h]⟩
  have h2 := congrArg Int32.toInt h
  rwa [Int32.toInt_ofInt_of_le hx.1 hx.2, Int32.toInt_ofInt_of_le hy.1 hy.2] at h2
theorem i_lt {x y : Int} (hx : in32 x) (hy : in32 y) : Int32.ofInt x < Int32.ofInt y ↔ x < y := by
  rw [Int32.lt_iff_toInt_lt, Int32.toInt_ofInt_of_le hx.1 hx.2, Int32.toInt_ofInt_of_le hy.1 hy.2]
theorem i_le {x y : Int} (hx : in32 x) (hy : in32 y) : Int32.ofInt x ≤ Int32.ofInt y ↔ x ≤ y := by
  rw [Int32.le_iff_toInt_le, Int32.toInt_ofInt_of_le hx.1 hx.2, Int32.toInt_ofInt_of_le hy.1 hy.2]
theorem l_eq {x y : Int} (hx : in64 x) (hy : in64 y) : Int64.ofInt x = Int64.ofInt y ↔ x = y := by
  refine ⟨fun h => ?_, fun h => by rw [h]⟩
  have h2 := congrArg Int64.toInt h
  rwa [Int64.toInt_ofInt_of_le hx.1 hx.2, Int64.toInt_ofInt_of_le hy.1 hy.2] at h2
theorem l_lt {x y : Int} (hx : in64 x) (hy : in64 y) : Int64.ofInt x < Int64.ofInt y ↔ x < y := by
  rw [Int64.lt_iff_toInt_lt, Int64.toInt_ofInt_of_le hx.1 hx.2, Int64.toInt_ofInt_of_le hy.1 hy.2]
theorem i_of (x : Int32) : Int32.ofInt x.toInt = x := Int32.ofInt_toInt x
theorem i_rg (x : Int32) : in32 x.toInt := ⟨Int32.le_toInt x, Int32.toInt_lt x⟩
theorem i_cl {x : Int} (h0 : 0 ≤ x) (h : x < 2147483648) : ((Int32.ofInt x).toNatClampNeg : Int) = x := by
  show (((Int32.ofInt x).toInt.toNat : Nat) : Int) = x
  rw [Int32.toInt_ofInt_of_le (by omega) h]
  omega
theorem i_in {x : Int} {n : Nat} (h0 : 0 ≤ x) (h1 : x < n) (hn : n < 2147483648) : vp_in (Int32.ofInt x) n := by
  rw [vp_in_iff, Int32.toInt_ofInt_of_le (by omega) (by omega)]
  exact ⟨h0, h1⟩
theorem i_upd {σ : gMem} {k : Nat} {i v : Int} (h0 : 0 ≤ i) (h : i < 2147483648) : upd (fun j => Int32.ofInt (σ k (j : Int))) (Int32.ofInt i).toNatClampNeg (Int32.ofInt v) = fun j : Nat => Int32.ofInt (mset σ k i v k (j : Int)) := by
  funext j
  have hc := i_cl h0 h
  simp only [upd, mset_at]
  by_cases e : j = (Int32.ofInt i).toNatClampNeg
  · rw [if_pos e, if_pos (by omega)]
  · rw [if_neg e, if_neg (by omega)]
theorem i_updL {σ : gMem} {k : Nat} {i v : Int} (h0 : 0 ≤ i) (h : i < 2147483648) : vp_updL (fun j => Int64.ofInt (σ k (j : Int))) (Int32.ofInt i).toNatClampNeg (Int64.ofInt v) = fun j : Nat => Int64.ofInt (mset σ k i v k (j : Int)) := by
  funext j
  have hc := i_cl h0 h
  simp only [vp_updL, mset_at]
  by_cases e : j = (Int32.ofInt i).toNatClampNeg
  · rw [if_pos e, if_pos (by omega)]
  · rw [if_neg e, if_neg (by omega)]
/-- bits of ints, as the machine has them -/
def iand (x y : Int) : Int := (Int32.ofInt x &&& Int32.ofInt y).toInt
def ior (x y : Int) : Int := (Int32.ofInt x ||| Int32.ofInt y).toInt
def ixor (x y : Int) : Int := (Int32.ofInt x ^^^ Int32.ofInt y).toInt
def ishl (x y : Int) : Int := (Int32.ofInt x <<< (Int32.ofInt y &&& 31)).toInt
def ishr (x y : Int) : Int := (Int32.ofInt x >>> (Int32.ofInt y &&& 31)).toInt
def iushr (x y : Int) : Int := (((Int32.ofInt x).toUInt32 >>> ((Int32.ofInt y).toUInt32 &&& Int32.toUInt32 31)).toInt32).toInt
/-- an int as the machine keeps it -/
def iwr (x : Int) : Int := (Int32.ofInt x).toInt
theorem iwr_rg (x : Int) : in32 (iwr x) := i_rg _
theorem iwr_of {x : Int} (h : in32 x) : iwr x = x := Int32.toInt_ofInt_of_le h.1 h.2
theorem gIw (x : Int) : gI x = gI (iwr x) := congrArg Value.int (Int32.ofInt_toInt _).symm
theorem iwr_ofInt (x : Int) : Int32.ofInt (iwr x) = Int32.ofInt x := Int32.ofInt_toInt _
def gx (x : Int) (n : Nat) : Int := if x < 0 then 0 else if x < n then x else 0
def gb {α : Type} (x : gRes) (k : Int → gMem → α) : α := k x.1 x.2
def gl {α β : Type} (x : α) (k : α → β) : β := k x
theorem gb_eq {α : Type} {x : gRes} {r : Int} {σ : gMem} (h : x = (r, σ)) (k : Int → gMem → α) : gb x k = k r σ := by rw [h]; rfl
theorem dv_rg {x y : Int} (h0 : 0 ≤ x) (h1 : 0 < y) : 0 ≤ x / y ∧ x / y ≤ x := ⟨Int.ediv_nonneg h0 (Int.le_of_lt h1), Int.ediv_le_self y h0⟩
theorem rm_rg {x y : Int} (h1 : 0 < y) : 0 ≤ x % y ∧ x % y < y := ⟨Int.emod_nonneg x (by omega), Int.emod_lt_of_pos x h1⟩
theorem i8_rg (x : Int) : -128 ≤ (Int32.ofInt x).toInt8.toInt ∧ (Int32.ofInt x).toInt8.toInt < 128 := ⟨Int8.le_toInt _, Int8.toInt_lt _⟩
theorem i16_rg (x : Int) : -32768 ≤ (Int32.ofInt x).toInt16.toInt ∧ (Int32.ofInt x).toInt16.toInt < 32768 := ⟨Int16.le_toInt _, Int16.toInt_lt _⟩
theorem iand1 (x : Int) : iand x 1 = 0 ∨ iand x 1 = 1 := by
  have h : (Int32.ofInt x &&& 1).toBitVec.toNat < 2 := by
    rw [Int32.toBitVec_and, BitVec.toNat_and]
    exact Nat.lt_of_le_of_lt Nat.and_le_right (by decide)
  have h2 : iand x 1 = ((Int32.ofInt x &&& 1).toBitVec.toNat : Int) := by
    show (Int32.ofInt x &&& 1).toBitVec.toInt = _
    rw [BitVec.toInt_eq_toNat_of_lt (by omega)]
  omega
theorem iand_rg (x y : Int) : in32 (iand x y) := i_rg _
theorem ior_rg (x y : Int) : in32 (ior x y) := i_rg _
theorem ixor_rg (x y : Int) : in32 (ixor x y) := i_rg _
theorem ishl_rg (x y : Int) : in32 (ishl x y) := i_rg _
theorem ishr_rg (x y : Int) : in32 (ishr x y) := i_rg _
theorem iushr_rg (x y : Int) : in32 (iushr x y) := i_rg _
def fr (W : List Nat) (s s' : gMem) : Prop := ∀ k, k ∉ W → s' k = s k
theorem fr.rf (W : List Nat) (s : gMem) : fr W s s := fun _ _ => rfl
theorem fr.set {W : List Nat} {s s' : gMem} {k : Nat} {i v : Int} (h : fr W s s') (hk : k ∈ W) : fr W s (mset s' k i v) := fun q hq => by
  have hne : q ≠ k := fun e => hq (e ▸ hk)
  rw [← h q hq]
  simp [mset, hne]
theorem fr.call {W V : List Nat} {s s' s'' : gMem} (h : fr W s s') (hv : ∀ k ∈ V, k ∈ W) (h2 : fr V s' s'') : fr W s s'' := fun q hq => (h2 q (fun e => hq (hv q e))).trans (h q hq)
theorem fr.mono {W V : List Nat} {s s' : gMem} (h : fr V s s') (hv : ∀ k ∈ V, k ∈ W) : fr W s s' := fun q hq => h q (fun e => hq (hv q e))
def gj {α β : Type} (body : α → β) (rest : α) : β := body rest
theorem gjx {α β : Type} {T : β} {body : α → β} {rest : α} (h : T = gj body rest) : ∃ j, j = rest ∧ T = body j := ⟨rest, rfl, h⟩
theorem gl_eq {α β : Type} {x v : α} (h : x = v) (k : α → β) : gl x k = k v := by rw [h]; rfl
theorem glx {α β : Type} {T : β} {x : α} {k : α → β} (h : T = gl x k) : ∃ v, v = x ∧ T = k v := ⟨x, rfl, h⟩
def gl2 {A B β : Type} (x : A × B) (k : A → B → β) : β := k x.1 x.2
theorem gl2_eq {A B β : Type} {x : A × B} {a : A} {b : B} (h : x = (a, b)) (k : A → B → β) : gl2 x k = k a b := by rw [h]; rfl
theorem gl2x {A B β : Type} {T : β} {x : A × B} {k : A → B → β} (h : T = gl2 x k) : ∃ v, v = x ∧ T = gl2 v k := ⟨x, rfl, h⟩
def gl3 {A B C β : Type} (x : A × B × C) (k : A → B → C → β) : β := k x.1 x.2.1 x.2.2
theorem gl3_eq {A B C β : Type} {x : A × B × C} {a : A} {b : B} {c : C} (h : x = (a, b, c)) (k : A → B → C → β) : gl3 x k = k a b c := by rw [h]; rfl
theorem gl3x {A B C β : Type} {T : β} {x : A × B × C} {k : A → B → C → β} (h : T = gl3 x k) : ∃ v, v = x ∧ T = gl3 v k := ⟨x, rfl, h⟩
def gl4 {A B C F β : Type} (x : A × B × C × F) (k : A → B → C → F → β) : β := k x.1 x.2.1 x.2.2.1 x.2.2.2
theorem gl4_eq {A B C F β : Type} {x : A × B × C × F} {a : A} {b : B} {c : C} {f : F} (h : x = (a, b, c, f)) (k : A → B → C → F → β) : gl4 x k = k a b c f := by rw [h]; rfl
theorem gl4x {A B C F β : Type} {T : β} {x : A × B × C × F} {k : A → B → C → F → β} (h : T = gl4 x k) : ∃ v, v = x ∧ T = gl4 v k := ⟨x, rfl, h⟩
def gl5 {A B C F G β : Type} (x : A × B × C × F × G) (k : A → B → C → F → G → β) : β := k x.1 x.2.1 x.2.2.1 x.2.2.2.1 x.2.2.2.2
theorem gl5_eq {A B C F G β : Type} {x : A × B × C × F × G} {a : A} {b : B} {c : C} {f : F} {g : G} (h : x = (a, b, c, f, g)) (k : A → B → C → F → G → β) : gl5 x k = k a b c f g := by rw [h]; rfl
theorem gl5x {A B C F G β : Type} {T : β} {x : A × B × C × F × G} {k : A → B → C → F → G → β} (h : T = gl5 x k) : ∃ v, v = x ∧ T = gl5 v k := ⟨x, rfl, h⟩
theorem gl1_eq {α β : Type} {x v : α} (h : x = v) (k : α → β) : gl x k = k v := gl_eq h k
theorem gl1x {α β : Type} {T : β} {x : α} {k : α → β} (h : T = gl x k) : ∃ v, v = x ∧ T = gl v k := ⟨x, rfl, h⟩
theorem gby {α : Type} {T : α} {x : gRes} {r : Int} {σ : gMem} {k : Int → gMem → α} (hT : T = gb x k) (h : x = (r, σ)) : T = k r σ := hT.trans (gb_eq h k)
theorem gl1y {α β : Type} {T : β} {x v : α} {k : α → β} (hT : T = gl x k) (h : x = v) : T = k v := hT.trans (gl_eq h k)
theorem gl2y {A B β : Type} {T : β} {x : A × B} {a : A} {b : B} {k : A → B → β} (hT : T = gl2 x k) (h : x = (a, b)) : T = k a b := hT.trans (gl2_eq h k)
theorem gl3y {A B C β : Type} {T : β} {x : A × B × C} {a : A} {b : B} {c : C} {k : A → B → C → β} (hT : T = gl3 x k) (h : x = (a, b, c)) : T = k a b c := hT.trans (gl3_eq h k)
theorem gl4y {A B C F β : Type} {T : β} {x : A × B × C × F} {a : A} {b : B} {c : C} {f : F} {k : A → B → C → F → β} (hT : T = gl4 x k) (h : x = (a, b, c, f)) : T = k a b c f := hT.trans (gl4_eq h k)
theorem gl5y {A B C F G β : Type} {T : β} {x : A × B × C × F × G} {a : A} {b : B} {c : C} {f : F} {g : G} {k : A → B → C → F → G → β} (hT : T = gl5 x k) (h : x = (a, b, c, f, g)) : T = k a b c f g := hT.trans (gl5_eq h k)
def gA (wd : gMem → va_W) (sz : Nat) : Nat → Prop := va_A (wd (fun _ _ => 0)) sz
def gNEST : List Cond := [.methodLinkNest RX2 55 yX8_has RX8, .methodLinkNest RX4 97 yX8_has RX8, .methodLinkNest RX0 51 yX8_has RX8]
theorem gNEST_tbl : ∀ w ∈ gNEST, w.onTables = true := by decide +kernel
def gPre (D : va_G) (cl : List vw_C) (tys : List (ClassId × FieldType)) (wd : gMem → va_W) (lg : Nat → Bool) (σ : gMem) (U : State) : Prop := va_P D cl (wd σ) U.heap ∧ va_K D cl tys U ∧ va_D (fun _ => True) (wd σ) ∧ gMR lg σ ∧ ∀ w ∈ gNEST, va_Nw w U
def gQ (D : va_G) (cl : List vw_C) (wd : gMem → va_W) (lg : Nat → Bool) (A : Nat → Prop) (kd : Int → Option Value) (rg : Int → Prop) (ρ : gRes) : Array Value → State → Outcome → State → Prop := fun _ st oc t => oc = .returned (kd ρ.1) ∧ rg ρ.1 ∧ va_P D cl (wd ρ.2) t.heap ∧ va_D A (wd ρ.2) ∧ gMR lg ρ.2 ∧ va_F A st t
def gC (l : Launch) (y : MethodName) (b : ByteArray) (n : Nat) (ret : Option FieldType) (fr lo : Nat) (D : va_G) (cl : List vw_C) (tys : List (ClassId × FieldType)) (wd : gMem → va_W) (lg : Nat → Bool) (kd : Int → Option Value) (rg : Int → Prop) (av : List Value) (σ : gMem) (ρ : gRes) : Prop := ∀ sz, Met l y (.code y b n ret :: gBIG) { frames := fr, cells := 0, slots := 0, locals := lo } (va_Pc av (fun U => U.heap.size = sz ∧ gPre D cl tys wd lg σ U)) (gQ D cl wd lg (gA wd sz) kd rg ρ) 0 0 (gA wd sz)
def kI : Int → Option Value := fun z => some (gI z)
def kJ : Int → Option Value := fun z => some (gL z)
def kV : Int → Option Value := fun _ => none
abbrev rgZ : Int → Prop := fun z => z = 0 ∨ z = 1
abbrev rgV : Int → Prop := fun _ => True
def gK (D : va_G) (cl : List vw_C) (wd : gMem → va_W) (lg : Nat → Bool) (A : Nat → Prop) (p : Program) (l : Launch) (e : Env) (R : Room) (s : State) (m : MethodId) (args : Array Value) (below : List Frame) (meth : Method) (c : Code) (nL : Nat) (QQ : gRes → State → Prop) (ρ : gRes) (σ : gMem) (pc : Nat) (lv : List (Nat × Value)) (st : List Value) : Prop :=
  ∀ (H : Heap) (locs : List Loc) (ls : Array Slot), va_P D cl (wd σ) H → va_D A (wd σ) → va_S A s.heap H locs → gMR lg σ → lv_has ls nL lv → W p l e R s m args below meth c H locs 0 0 (QQ ρ) (F0 m pc ls st)
def gE (D : va_G) (cl : List vw_C) (tys : List (ClassId × FieldType)) (wd : gMem → va_W) (A : Nat → Prop) (p : Program) (s : State) (m : MethodId) (args : Array Value) (meth : Method) (c : Code) (cc : ByteArray) (nL : Nat) (own : String) (ret : Option FieldType) : Prop :=
  p.tables.exec = Jvm.exec ∧ c.code = cc ∧ c.maxLocals = nL ∧ s.vm.findClass own = some m.cls ∧ (∀ w ∈ gBIG, w.before args s = true) ∧ va_K D cl tys s ∧ meth.locks = false ∧ (∀ q, s.heap.size ≤ q → A q) ∧ meth.sig.returnType = ret ∧ (∀ w ∈ gNEST, va_Nw w s) ∧ A = gA wd s.heap.size ∧ ∀ σ, (wd σ).map (·.1) = (wd (fun _ _ => 0)).map (·.1)
section GK
variable {D : va_G} {cl : List vw_C} {tys : List (ClassId × FieldType)} {wd : gMem → va_W} {lg : Nat → Bool} {A : Nat → Prop} {p : Program} {l : Launch} {e : Env} {R : Room} {s : State} {m : MethodId} {args : Array Value} {below : List Frame} {meth : Method} {c : Code} {nL : Nat} {QQ : gRes → State → Prop} {ρ : gRes} {σ : gMem} {pc : Nat} {lv lv' : List (Nat × Value)} {st : List Value} {cc : ByteArray} {own : String} {ret : Option FieldType}

theorem k_rho {ρ' : gRes} (h : ρ = ρ') (k : gK D cl wd lg A p l e R s m args below meth c nL QQ ρ' σ pc lv st) : gK D cl wd lg A p l e R s m args below meth c nL QQ ρ σ pc lv st := h ▸ k
theorem k_sg {σ' : gMem} (h : σ = σ') (k : gK D cl wd lg A p l e R s m args below meth c nL QQ ρ σ' pc lv st) : gK D cl wd lg A p l e R s m args below meth c nL QQ ρ σ pc lv st := h ▸ k
theorem k_pc {pc' : Nat} (h : pc = pc') (k : gK D cl wd lg A p l e R s m args below meth c nL QQ ρ σ pc' lv st) : gK D cl wd lg A p l e R s m args below meth c nL QQ ρ σ pc lv st := h ▸ k
theorem k_lv (ks : List Nat) (hl : lv_pick lv ks = lv') (k : gK D cl wd lg A p l e R s m args below meth c nL QQ ρ σ pc lv' st) : gK D cl wd lg A p l e R s m args below meth c nL QQ ρ σ pc lv st := fun H locs ls hP hD hS hR h => k H locs ls hP hD hS hR (lv_sub h ks hl)
theorem k_st {st' : List Value} (h : st = st') (k : gK D cl wd lg A p l e R s m args below meth c nL QQ ρ σ pc lv st') : gK D cl wd lg A p l e R s m args below meth c nL QQ ρ σ pc lv st := h ▸ k
theorem k_lv0 (h : lv = lv') (k : gK D cl wd lg A p l e R s m args below meth c nL QQ ρ σ pc lv' st) : gK D cl wd lg A p l e R s m args below meth c nL QQ ρ σ pc lv st := h ▸ k
theorem ro_kk {kd : Int → Option Value} {rg : Int → Prop} {r0 : Int} (k : rg r0 → gK D cl wd lg A p l e R s m args below meth c nL QQ ρ σ pc lv ((kd r0).toList ++ st)) : ∀ (r : Int) (σ1 : gMem), (r0, σ) = (r, σ1) → rg r → gK D cl wd lg A p l e R s m args below meth c nL QQ ρ σ1 pc lv ((kd r).toList ++ st) := fun r σ1 h hr => by cases h; exact k hr
theorem k_mr (k : gMR lg σ → gK D cl wd lg A p l e R s m args below meth c nL QQ ρ σ pc lv st) : gK D cl wd lg A p l e R s m args below meth c nL QQ ρ σ pc lv st := fun H locs ls hP hD hS hR h => k hR H locs ls hP hD hS hR h
theorem k_ite {q : Prop} {hq : Decidable q} {a b : gRes} (kt : q → gK D cl wd lg A p l e R s m args below meth c nL QQ a σ pc lv st) (kf : ¬ q → gK D cl wd lg A p l e R s m args below meth c nL QQ b σ pc lv st) : gK D cl wd lg A p l e R s m args below meth c nL QQ (if q then a else b) σ pc lv st := by
  by_cases h : q
  · rw [if_pos h]; exact kt h
  · rw [if_neg h]; exact kf h
theorem k_let {α : Type} {x : α} {k : α → gRes} (h : ∀ v, v = x → gK D cl wd lg A p l e R s m args below meth c nL QQ (k v) σ pc lv st) : gK D cl wd lg A p l e R s m args below meth c nL QQ (gl x k) σ pc lv st := h x rfl
theorem k_iconst (E : gE D cl tys wd A p s m args meth c cc nL own ret) {n : Int} (d : decode cc pc = .ok (.iconst n, 1))  (k : gK D cl wd lg A p l e R s m args below meth c nL QQ ρ σ (pc + 1) lv (gI n :: st)) : gK D cl wd lg A p l e R s m args below meth c nL QQ ρ σ pc lv st := fun H locs ls hP hD hS hR hl => lv_iconst E.1 E.2.1 d rfl (k H locs ls hP hD hS hR hl)
theorem k_bipush (E : gE D cl tys wd A p s m args meth c cc nL own ret) {n : Int} (d : decode cc pc = .ok (.bipush n, 2)) (hn : (Int8.ofInt n).toInt32 = Int32.ofInt n) (k : gK D cl wd lg A p l e R s m args below meth c nL QQ ρ σ (pc + 2) lv (gI n :: st)) : gK D cl wd lg A p l e R s m args below meth c nL QQ ρ σ pc lv st := fun H locs ls hP hD hS hR hl => lv_bipush E.1 E.2.1 d hn (k H locs ls hP hD hS hR hl)
theorem k_sipush (E : gE D cl tys wd A p s m args meth c cc nL own ret) {n : Int} (d : decode cc pc = .ok (.sipush n, 3)) (hn : (Int16.ofInt n).toInt32 = Int32.ofInt n) (k : gK D cl wd lg A p l e R s m args below meth c nL QQ ρ σ (pc + 3) lv (gI n :: st)) : gK D cl wd lg A p l e R s m args below meth c nL QQ ρ σ pc lv st := fun H locs ls hP hD hS hR hl => lv_sipush E.1 E.2.1 d hn (k H locs ls hP hD hS hR hl)
theorem k_lconst0 (E : gE D cl tys wd A p s m args meth c cc nL own ret)  (d : decode cc pc = .ok (.lconst 0, 1))  (k : gK D cl wd lg A p l e R s m args below meth c nL QQ ρ σ (pc + 1) lv (gL 0 :: st)) : gK D cl wd lg A p l e R s m args below meth c nL QQ ρ σ pc lv st := fun H locs ls hP hD hS hR hl => lv_lconst E.1 E.2.1 d rfl (k H locs ls hP hD hS hR hl)
theorem k_lconst1 (E : gE D cl tys wd A p s m args meth c cc nL own ret)  (d : decode cc pc = .ok (.lconst 1, 1))  (k : gK D cl wd lg A p l e R s m args below meth c nL QQ ρ σ (pc + 1) lv (gL 1 :: st)) : gK D cl wd lg A p l e R s m args below meth c nL QQ ρ σ pc lv st := fun H locs ls hP hD hS hR hl => lv_lconst E.1 E.2.1 d rfl (k H locs ls hP hD hS hR hl)
theorem k_ldc (E : gE D cl tys wd A p s m args meth c cc nL own ret) {i : Nat} {n : Int} {v : Int32} (d : decode cc pc = .ok (.ldc i, 2)) (hw : Cond.constant own i v ∈ gBIG) (hv : v = Int32.ofInt n) (k : gK D cl wd lg A p l e R s m args below meth c nL QQ ρ σ (pc + 2) lv (gI n :: st)) : gK D cl wd lg A p l e R s m args below meth c nL QQ ρ σ pc lv st := fun H locs ls hP hD hS hR hl => lv_ldc E.1 E.2.1 E.2.2.2.1 (hv ▸ E.2.2.2.2.1 _ hw) d (k H locs ls hP hD hS hR hl)
theorem k_ldcw (E : gE D cl tys wd A p s m args meth c cc nL own ret) {i : Nat} {n : Int} {v : Int32} (d : decode cc pc = .ok (.ldc_w i, 3)) (hw : Cond.constant own i v ∈ gBIG) (hv : v = Int32.ofInt n) (k : gK D cl wd lg A p l e R s m args below meth c nL QQ ρ σ (pc + 3) lv (gI n :: st)) : gK D cl wd lg A p l e R s m args below meth c nL QQ ρ σ pc lv st := fun H locs ls hP hD hS hR hl => lv_ldcw E.1 E.2.1 E.2.2.2.1 (hv ▸ E.2.2.2.2.1 _ hw) d (k H locs ls hP hD hS hR hl)
theorem k_ldc2 (E : gE D cl tys wd A p s m args meth c cc nL own ret) {i : Nat} {n : Int} {v : Int64} (d : decode cc pc = .ok (.ldc2_w i, 3)) (hw : Cond.constantLong own i v ∈ gBIG) (hv : v = Int64.ofInt n) (k : gK D cl wd lg A p l e R s m args below meth c nL QQ ρ σ (pc + 3) lv (gL n :: st)) : gK D cl wd lg A p l e R s m args below meth c nL QQ ρ σ pc lv st := fun H locs ls hP hD hS hR hl => lv_ldc2 E.1 E.2.1 E.2.2.2.1 (hv ▸ E.2.2.2.2.1 _ hw) d (k H locs ls hP hD hS hR hl)
theorem k_iload (E : gE D cl tys wd A p s m args meth c cc nL own ret) {i : Nat} {z : Int} (j : Nat) (d : decode cc pc = .ok (.iload i, 2)) (h : lv[j]? = some (i, gI z)) (k : gK D cl wd lg A p l e R s m args below meth c nL QQ ρ σ (pc + 2) lv (gI z :: st)) : gK D cl wd lg A p l e R s m args below meth c nL QQ ρ σ pc lv st := fun H locs ls hP hD hS hR hl => lv_iload E.1 E.2.1 d (lv_at hl j h) (k H locs ls hP hD hS hR hl)
theorem k_iloadn (E : gE D cl tys wd A p s m args meth c cc nL own ret) {i : Nat} {f : Fin 4} {z : Int} (j : Nat) (d : decode cc pc = .ok (.iload_n f, 1)) (hf : (f : Nat) = i) (h : lv[j]? = some (i, gI z)) (k : gK D cl wd lg A p l e R s m args below meth c nL QQ ρ σ (pc + 1) lv (gI z :: st)) : gK D cl wd lg A p l e R s m args below meth c nL QQ ρ σ pc lv st := fun H locs ls hP hD hS hR hl => lv_iload_n E.1 E.2.1 d hf (lv_at hl j h) (k H locs ls hP hD hS hR hl)
theorem k_lload (E : gE D cl tys wd A p s m args meth c cc nL own ret) {i : Nat} {z : Int} (j : Nat) (d : decode cc pc = .ok (.lload i, 2)) (h : lv[j]? = some (i, gL z)) (k : gK D cl wd lg A p l e R s m args below meth c nL QQ ρ σ (pc + 2) lv (gL z :: st)) : gK D cl wd lg A p l e R s m args below meth c nL QQ ρ σ pc lv st := fun H locs ls hP hD hS hR hl => lv_lload E.1 E.2.1 d (lv_at hl j h) (k H locs ls hP hD hS hR hl)
theorem k_lloadn (E : gE D cl tys wd A p s m args meth c cc nL own ret) {i : Nat} {f : Fin 4} {z : Int} (j : Nat) (d : decode cc pc = .ok (.lload_n f, 1)) (hf : (f : Nat) = i) (h : lv[j]? = some (i, gL z)) (k : gK D cl wd lg A p l e R s m args below meth c nL QQ ρ σ (pc + 1) lv (gL z :: st)) : gK D cl wd lg A p l e R s m args below meth c nL QQ ρ σ pc lv st := fun H locs ls hP hD hS hR hl => lv_lload_n E.1 E.2.1 d hf (lv_at hl j h) (k H locs ls hP hD hS hR hl)
theorem k_aload (E : gE D cl tys wd A p s m args meth c cc nL own ret) {i : Nat} {z : Nat} (j : Nat) (d : decode cc pc = .ok (.aload i, 2)) (h : lv[j]? = some (i, .ref z)) (k : gK D cl wd lg A p l e R s m args below meth c nL QQ ρ σ (pc + 2) lv (.ref z :: st)) : gK D cl wd lg A p l e R s m args below meth c nL QQ ρ σ pc lv st := fun H locs ls hP hD hS hR hl => lv_aload E.1 E.2.1 d (lv_at hl j h) (k H locs ls hP hD hS hR hl)
theorem k_aloadn (E : gE D cl tys wd A p s m args meth c cc nL own ret) {i : Nat} {f : Fin 4} {z : Nat} (j : Nat) (d : decode cc pc = .ok (.aload_n f, 1)) (hf : (f : Nat) = i) (h : lv[j]? = some (i, .ref z)) (k : gK D cl wd lg A p l e R s m args below meth c nL QQ ρ σ (pc + 1) lv (.ref z :: st)) : gK D cl wd lg A p l e R s m args below meth c nL QQ ρ σ pc lv st := fun H locs ls hP hD hS hR hl => lv_aload_n E.1 E.2.1 d hf (lv_at hl j h) (k H locs ls hP hD hS hR hl)
theorem k_istore (E : gE D cl tys wd A p s m args meth c cc nL own ret) {i : Nat} {z : Int} (d : decode cc pc = .ok (.istore i, 2)) (hn : i < nL) (hlv : (i, (gI z : Value)) :: lv.filter (fun q => !(q.1 == i) && !(q.1 + 1 == i && q.2.category == 2)) = lv') (k : gK D cl wd lg A p l e R s m args below meth c nL QQ ρ σ (pc + 2) lv' st) : gK D cl wd lg A p l e R s m args below meth c nL QQ ρ σ pc lv (gI z :: st) := fun H locs ls hP hD hS hR hl => lv_istore E.1 E.2.1 d hl hn hlv (fun ls hl => k H locs ls hP hD hS hR hl)
theorem k_istoren (E : gE D cl tys wd A p s m args meth c cc nL own ret) {i : Nat} {f : Fin 4} {z : Int} (d : decode cc pc = .ok (.istore_n f, 1)) (hf : (f : Nat) = i) (hn : i < nL) (hlv : (i, (gI z : Value)) :: lv.filter (fun q => !(q.1 == i) && !(q.1 + 1 == i && q.2.category == 2)) = lv') (k : gK D cl wd lg A p l e R s m args below meth c nL QQ ρ σ (pc + 1) lv' st) : gK D cl wd lg A p l e R s m args below meth c nL QQ ρ σ pc lv (gI z :: st) := fun H locs ls hP hD hS hR hl => lv_istore_n E.1 E.2.1 d hf hl hn hlv (fun ls hl => k H locs ls hP hD hS hR hl)
theorem k_lstore (E : gE D cl tys wd A p s m args meth c cc nL own ret) {i : Nat} {z : Int} (d : decode cc pc = .ok (.lstore i, 2)) (hn : i + 1 < nL) (hlv : (i, (gL z : Value)) :: lv.filter (fun q => !(q.1 == i) && (!(q.1 == i + 1) && !(q.1 + 1 == i && q.2.category == 2))) = lv') (k : gK D cl wd lg A p l e R s m args below meth c nL QQ ρ σ (pc + 2) lv' st) : gK D cl wd lg A p l e R s m args below meth c nL QQ ρ σ pc lv (gL z :: st) := fun H locs ls hP hD hS hR hl => lv_lstore E.1 E.2.1 d hl hn hlv (fun ls hl => k H locs ls hP hD hS hR hl)
theorem k_lstoren (E : gE D cl tys wd A p s m args meth c cc nL own ret) {i : Nat} {f : Fin 4} {z : Int} (d : decode cc pc = .ok (.lstore_n f, 1)) (hf : (f : Nat) = i) (hn : i + 1 < nL) (hlv : (i, (gL z : Value)) :: lv.filter (fun q => !(q.1 == i) && (!(q.1 == i + 1) && !(q.1 + 1 == i && q.2.category == 2))) = lv') (k : gK D cl wd lg A p l e R s m args below meth c nL QQ ρ σ (pc + 1) lv' st) : gK D cl wd lg A p l e R s m args below meth c nL QQ ρ σ pc lv (gL z :: st) := fun H locs ls hP hD hS hR hl => lv_lstore_n E.1 E.2.1 d hf hl hn hlv (fun ls hl => k H locs ls hP hD hS hR hl)
theorem k_astore (E : gE D cl tys wd A p s m args meth c cc nL own ret) {i : Nat} {z : Nat} (d : decode cc pc = .ok (.astore i, 2)) (hn : i < nL) (hlv : (i, (.ref z : Value)) :: lv.filter (fun q => !(q.1 == i) && !(q.1 + 1 == i && q.2.category == 2)) = lv') (k : gK D cl wd lg A p l e R s m args below meth c nL QQ ρ σ (pc + 2) lv' st) : gK D cl wd lg A p l e R s m args below meth c nL QQ ρ σ pc lv (.ref z :: st) := fun H locs ls hP hD hS hR hl => lv_astore E.1 E.2.1 d hl hn hlv (fun ls hl => k H locs ls hP hD hS hR hl)
theorem k_astoren (E : gE D cl tys wd A p s m args meth c cc nL own ret) {i : Nat} {f : Fin 4} {z : Nat} (d : decode cc pc = .ok (.astore_n f, 1)) (hf : (f : Nat) = i) (hn : i < nL) (hlv : (i, (.ref z : Value)) :: lv.filter (fun q => !(q.1 == i) && !(q.1 + 1 == i && q.2.category == 2)) = lv') (k : gK D cl wd lg A p l e R s m args below meth c nL QQ ρ σ (pc + 1) lv' st) : gK D cl wd lg A p l e R s m args below meth c nL QQ ρ σ pc lv (.ref z :: st) := fun H locs ls hP hD hS hR hl => lv_astore_n E.1 E.2.1 d hf hl hn hlv (fun ls hl => k H locs ls hP hD hS hR hl)
theorem k_iinc (E : gE D cl tys wd A p s m args meth c cc nL own ret) {i : Nat} {n z : Int} (j : Nat) (d : decode cc pc = .ok (.iinc i n, 3)) (h : lv[j]? = some (i, gI z)) (hn : i < nL) (hlv : (i, (gI (z + n) : Value)) :: lv.filter (fun q => !(q.1 == i) && !(q.1 + 1 == i && q.2.category == 2)) = lv') (k : gK D cl wd lg A p l e R s m args below meth c nL QQ ρ σ (pc + 3) lv' st) : gK D cl wd lg A p l e R s m args below meth c nL QQ ρ σ pc lv st := fun H locs ls hP hD hS hR hl => lv_iinc E.1 E.2.1 d hl h (Int32.ofInt_add z n).symm hn hlv (fun ls hl => k H locs ls hP hD hS hR hl)
theorem k_iadd (E : gE D cl tys wd A p s m args meth c cc nL own ret) {x y : Int} (d : decode cc pc = .ok (.iadd, 1))  (k : gK D cl wd lg A p l e R s m args below meth c nL QQ ρ σ (pc + 1) lv (gI (x + y) :: st)) : gK D cl wd lg A p l e R s m args below meth c nL QQ ρ σ pc lv (gI y :: gI x :: st) := by
  intro H locs ls hP hD hS hR hl
  have e9 : Int32.ofInt (x + y) = Int32.ofInt x + Int32.ofInt y := Int32.ofInt_add x y
  refine lv_iadd E.1 E.2.1 d ?_
  rw [← e9]
  exact k H locs ls hP hD hS hR hl
theorem k_ladd (E : gE D cl tys wd A p s m args meth c cc nL own ret) {x y : Int} (d : decode cc pc = .ok (.ladd, 1))  (k : gK D cl wd lg A p l e R s m args below meth c nL QQ ρ σ (pc + 1) lv (gL (x + y) :: st)) : gK D cl wd lg A p l e R s m args below meth c nL QQ ρ σ pc lv (gL y :: gL x :: st) := by
  intro H locs ls hP hD hS hR hl
  have e9 : Int64.ofInt (x + y) = Int64.ofInt x + Int64.ofInt y := Int64.ofInt_add x y
  refine lv_ladd E.1 E.2.1 d ?_
  rw [← e9]
  exact k H locs ls hP hD hS hR hl
theorem k_isub (E : gE D cl tys wd A p s m args meth c cc nL own ret) {x y : Int} (d : decode cc pc = .ok (.isub, 1))  (k : gK D cl wd lg A p l e R s m args below meth c nL QQ ρ σ (pc + 1) lv (gI (x - y) :: st)) : gK D cl wd lg A p l e R s m args below meth c nL QQ ρ σ pc lv (gI y :: gI x :: st) := by
  intro H locs ls hP hD hS hR hl
  have e9 : Int32.ofInt (x - y) = Int32.ofInt x - Int32.ofInt y := Int32.ofInt_sub x y
  refine lv_isub E.1 E.2.1 d ?_
  rw [← e9]
  exact k H locs ls hP hD hS hR hl
theorem k_lsub (E : gE D cl tys wd A p s m args meth c cc nL own ret) {x y : Int} (d : decode cc pc = .ok (.lsub, 1))  (k : gK D cl wd lg A p l e R s m args below meth c nL QQ ρ σ (pc + 1) lv (gL (x - y) :: st)) : gK D cl wd lg A p l e R s m args below meth c nL QQ ρ σ pc lv (gL y :: gL x :: st) := by
  intro H locs ls hP hD hS hR hl
  have e9 : Int64.ofInt (x - y) = Int64.ofInt x - Int64.ofInt y := Int64.ofInt_sub x y
  refine lv_lsub E.1 E.2.1 d ?_
  rw [← e9]
  exact k H locs ls hP hD hS hR hl
theorem k_imul (E : gE D cl tys wd A p s m args meth c cc nL own ret) {x y : Int} (d : decode cc pc = .ok (.imul, 1))  (k : gK D cl wd lg A p l e R s m args below meth c nL QQ ρ σ (pc + 1) lv (gI (x * y) :: st)) : gK D cl wd lg A p l e R s m args below meth c nL QQ ρ σ pc lv (gI y :: gI x :: st) := by
  intro H locs ls hP hD hS hR hl
  have e9 : Int32.ofInt (x * y) = Int32.ofInt x * Int32.ofInt y := Int32.ofInt_mul x y
  refine lv_imul E.1 E.2.1 d ?_
  rw [← e9]
  exact k H locs ls hP hD hS hR hl
theorem k_lmul (E : gE D cl tys wd A p s m args meth c cc nL own ret) {x y : Int} (d : decode cc pc = .ok (.lmul, 1))  (k : gK D cl wd lg A p l e R s m args below meth c nL QQ ρ σ (pc + 1) lv (gL (x * y) :: st)) : gK D cl wd lg A p l e R s m args below meth c nL QQ ρ σ pc lv (gL y :: gL x :: st) := by
  intro H locs ls hP hD hS hR hl
  have e9 : Int64.ofInt (x * y) = Int64.ofInt x * Int64.ofInt y := Int64.ofInt_mul x y
  refine lv_lmul E.1 E.2.1 d ?_
  rw [← e9]
  exact k H locs ls hP hD hS hR hl
theorem k_ineg (E : gE D cl tys wd A p s m args meth c cc nL own ret) {x : Int} (d : decode cc pc = .ok (.ineg, 1))  (k : gK D cl wd lg A p l e R s m args below meth c nL QQ ρ σ (pc + 1) lv (gI (-x) :: st)) : gK D cl wd lg A p l e R s m args below meth c nL QQ ρ σ pc lv (gI x :: st) := by
  intro H locs ls hP hD hS hR hl
  have e9 : Int32.ofInt (-x) = -Int32.ofInt x := Int32.ofInt_neg x
  refine lv_ineg E.1 E.2.1 d ?_
  rw [← e9]
  exact k H locs ls hP hD hS hR hl
theorem k_lneg (E : gE D cl tys wd A p s m args meth c cc nL own ret) {x : Int} (d : decode cc pc = .ok (.lneg, 1))  (k : gK D cl wd lg A p l e R s m args below meth c nL QQ ρ σ (pc + 1) lv (gL (-x) :: st)) : gK D cl wd lg A p l e R s m args below meth c nL QQ ρ σ pc lv (gL x :: st) := by
  intro H locs ls hP hD hS hR hl
  have e9 : Int64.ofInt (-x) = -Int64.ofInt x := Int64.ofInt_neg x
  refine lv_lneg E.1 E.2.1 d ?_
  rw [← e9]
  exact k H locs ls hP hD hS hR hl
theorem k_iand (E : gE D cl tys wd A p s m args meth c cc nL own ret) {x y : Int} (d : decode cc pc = .ok (.iand, 1))  (k : gK D cl wd lg A p l e R s m args below meth c nL QQ ρ σ (pc + 1) lv (gI (iand x y) :: st)) : gK D cl wd lg A p l e R s m args below meth c nL QQ ρ σ pc lv (gI y :: gI x :: st) := by
  intro H locs ls hP hD hS hR hl
  have e9 : Int32.ofInt (iand x y) = Int32.ofInt x &&& Int32.ofInt y := Int32.ofInt_toInt _
  refine lv_iand E.1 E.2.1 d ?_
  rw [← e9]
  exact k H locs ls hP hD hS hR hl
theorem k_ior (E : gE D cl tys wd A p s m args meth c cc nL own ret) {x y : Int} (d : decode cc pc = .ok (.ior, 1))  (k : gK D cl wd lg A p l e R s m args below meth c nL QQ ρ σ (pc + 1) lv (gI (ior x y) :: st)) : gK D cl wd lg A p l e R s m args below meth c nL QQ ρ σ pc lv (gI y :: gI x :: st) := by
  intro H locs ls hP hD hS hR hl
  have e9 : Int32.ofInt (ior x y) = Int32.ofInt x ||| Int32.ofInt y := Int32.ofInt_toInt _
  refine lv_ior E.1 E.2.1 d ?_
  rw [← e9]
  exact k H locs ls hP hD hS hR hl
theorem k_ixor (E : gE D cl tys wd A p s m args meth c cc nL own ret) {x y : Int} (d : decode cc pc = .ok (.ixor, 1))  (k : gK D cl wd lg A p l e R s m args below meth c nL QQ ρ σ (pc + 1) lv (gI (ixor x y) :: st)) : gK D cl wd lg A p l e R s m args below meth c nL QQ ρ σ pc lv (gI y :: gI x :: st) := by
  intro H locs ls hP hD hS hR hl
  have e9 : Int32.ofInt (ixor x y) = Int32.ofInt x ^^^ Int32.ofInt y := Int32.ofInt_toInt _
  refine lv_ixor E.1 E.2.1 d ?_
  rw [← e9]
  exact k H locs ls hP hD hS hR hl
theorem k_ishl (E : gE D cl tys wd A p s m args meth c cc nL own ret) {x y : Int} (d : decode cc pc = .ok (.ishl, 1))  (k : gK D cl wd lg A p l e R s m args below meth c nL QQ ρ σ (pc + 1) lv (gI (ishl x y) :: st)) : gK D cl wd lg A p l e R s m args below meth c nL QQ ρ σ pc lv (gI y :: gI x :: st) := by
  intro H locs ls hP hD hS hR hl
  have e9 : Int32.ofInt (ishl x y) = Int32.ofInt x <<< (Int32.ofInt y &&& 31) := Int32.ofInt_toInt _
  refine lv_ishl E.1 E.2.1 d ?_
  rw [← e9]
  exact k H locs ls hP hD hS hR hl
theorem k_ishr (E : gE D cl tys wd A p s m args meth c cc nL own ret) {x y : Int} (d : decode cc pc = .ok (.ishr, 1))  (k : gK D cl wd lg A p l e R s m args below meth c nL QQ ρ σ (pc + 1) lv (gI (ishr x y) :: st)) : gK D cl wd lg A p l e R s m args below meth c nL QQ ρ σ pc lv (gI y :: gI x :: st) := by
  intro H locs ls hP hD hS hR hl
  have e9 : Int32.ofInt (ishr x y) = Int32.ofInt x >>> (Int32.ofInt y &&& 31) := Int32.ofInt_toInt _
  refine lv_ishr E.1 E.2.1 d ?_
  rw [← e9]
  exact k H locs ls hP hD hS hR hl
theorem k_iushr (E : gE D cl tys wd A p s m args meth c cc nL own ret) {x y : Int} (d : decode cc pc = .ok (.iushr, 1))  (k : gK D cl wd lg A p l e R s m args below meth c nL QQ ρ σ (pc + 1) lv (gI (iushr x y) :: st)) : gK D cl wd lg A p l e R s m args below meth c nL QQ ρ σ pc lv (gI y :: gI x :: st) := fun H locs ls hP hD hS hR hl => lv_iushr E.1 E.2.1 d (Int32.ofInt_toInt _).symm (k H locs ls hP hD hS hR hl)
theorem k_idiv (E : gE D cl tys wd A p s m args meth c cc nL own ret) {x y : Int} (d : decode cc pc = .ok (.idiv, 1)) (hx : in32 x) (hy : in32 y) (hne : ¬ y = 0) (k : gK D cl wd lg A p l e R s m args below meth c nL QQ ρ σ (pc + 1) lv (gI (x.tdiv y) :: st)) : gK D cl wd lg A p l e R s m args below meth c nL QQ ρ σ pc lv (gI y :: gI x :: st) := by
  intro H locs ls hP hD hS hR hl
  have e9 : Int32.ofInt (x.tdiv y) = Int32.ofInt x / Int32.ofInt y := Int32.ofInt_tdiv hx.1 (Int.le_of_lt_add_one hx.2) hy.1 (Int.le_of_lt_add_one hy.2)
  refine lv_idiv E.1 E.2.1 d (fun q => hne ((i_eq hy ⟨by decide, by decide⟩).mp q)) ?_
  rw [← e9]
  exact k H locs ls hP hD hS hR hl
theorem k_irem (E : gE D cl tys wd A p s m args meth c cc nL own ret) {x y : Int} (d : decode cc pc = .ok (.irem, 1)) (hx : in32 x) (hy : in32 y) (hne : ¬ y = 0) (k : gK D cl wd lg A p l e R s m args below meth c nL QQ ρ σ (pc + 1) lv (gI (x.tmod y) :: st)) : gK D cl wd lg A p l e R s m args below meth c nL QQ ρ σ pc lv (gI y :: gI x :: st) := by
  intro H locs ls hP hD hS hR hl
  have e9 : Int32.ofInt (x.tmod y) = Int32.ofInt x - Int32.ofInt x / Int32.ofInt y * Int32.ofInt y := by rw [Int.tmod_def, Int32.ofInt_sub, Int32.ofInt_mul, Int32.ofInt_tdiv hx.1 (Int.le_of_lt_add_one hx.2) hy.1 (Int.le_of_lt_add_one hy.2), Int32.mul_comm]
  refine lv_irem E.1 E.2.1 d (fun q => hne ((i_eq hy ⟨by decide, by decide⟩).mp q)) ?_
  rw [← e9]
  exact k H locs ls hP hD hS hR hl
theorem k_ldiv (E : gE D cl tys wd A p s m args meth c cc nL own ret) {x y : Int} (d : decode cc pc = .ok (.ldiv, 1)) (hx : in64 x) (hy : in64 y) (hne : ¬ y = 0) (k : gK D cl wd lg A p l e R s m args below meth c nL QQ ρ σ (pc + 1) lv (gL (x.tdiv y) :: st)) : gK D cl wd lg A p l e R s m args below meth c nL QQ ρ σ pc lv (gL y :: gL x :: st) := by
  intro H locs ls hP hD hS hR hl
  have e9 : Int64.ofInt (x.tdiv y) = Int64.ofInt x / Int64.ofInt y := Int64.ofInt_tdiv hx.1 (Int.le_of_lt_add_one hx.2) hy.1 (Int.le_of_lt_add_one hy.2)
  refine lv_ldiv E.1 E.2.1 d (fun q => hne ((l_eq hy ⟨by decide, by decide⟩).mp q)) ?_
  rw [← e9]
  exact k H locs ls hP hD hS hR hl
theorem k_lrem (E : gE D cl tys wd A p s m args meth c cc nL own ret) {x y : Int} (d : decode cc pc = .ok (.lrem, 1)) (hx : in64 x) (hy : in64 y) (hne : ¬ y = 0) (k : gK D cl wd lg A p l e R s m args below meth c nL QQ ρ σ (pc + 1) lv (gL (x.tmod y) :: st)) : gK D cl wd lg A p l e R s m args below meth c nL QQ ρ σ pc lv (gL y :: gL x :: st) := by
  intro H locs ls hP hD hS hR hl
  have e9 : Int64.ofInt (x.tmod y) = Int64.ofInt x - Int64.ofInt x / Int64.ofInt y * Int64.ofInt y := by rw [Int.tmod_def, Int64.ofInt_sub, Int64.ofInt_mul, Int64.ofInt_tdiv hx.1 (Int.le_of_lt_add_one hx.2) hy.1 (Int.le_of_lt_add_one hy.2), Int64.mul_comm]
  refine lv_lrem E.1 E.2.1 d (fun q => hne ((l_eq hy ⟨by decide, by decide⟩).mp q)) ?_
  rw [← e9]
  exact k H locs ls hP hD hS hR hl
theorem k_i2l (E : gE D cl tys wd A p s m args meth c cc nL own ret) {x : Int} (d : decode cc pc = .ok (.i2l, 1)) (hx : in32 x) (k : gK D cl wd lg A p l e R s m args below meth c nL QQ ρ σ (pc + 1) lv (gL x :: st)) : gK D cl wd lg A p l e R s m args below meth c nL QQ ρ σ pc lv (gI x :: st) := fun H locs ls hP hD hS hR hl => lv_i2l E.1 E.2.1 d (Int64.toInt_inj.mp (by rw [Int32.toInt_toInt64, Int32.toInt_ofInt_of_le hx.1 hx.2, Int64.toInt_ofInt_of_le (by omega) (by omega)])) (k H locs ls hP hD hS hR hl)
theorem k_i2b (E : gE D cl tys wd A p s m args meth c cc nL own ret) {x : Int} (d : decode cc pc = .ok (.i2b, 1))  (k : gK D cl wd lg A p l e R s m args below meth c nL QQ ρ σ (pc + 1) lv (gI ((Int32.ofInt x).toInt8.toInt) :: st)) : gK D cl wd lg A p l e R s m args below meth c nL QQ ρ σ pc lv (gI x :: st) := fun H locs ls hP hD hS hR hl => lv_i2b E.1 E.2.1 d (Int32.ofInt_int8ToInt _).symm (k H locs ls hP hD hS hR hl)
theorem k_i2s (E : gE D cl tys wd A p s m args meth c cc nL own ret) {x : Int} (d : decode cc pc = .ok (.i2s, 1))  (k : gK D cl wd lg A p l e R s m args below meth c nL QQ ρ σ (pc + 1) lv (gI ((Int32.ofInt x).toInt16.toInt) :: st)) : gK D cl wd lg A p l e R s m args below meth c nL QQ ρ σ pc lv (gI x :: st) := fun H locs ls hP hD hS hR hl => lv_i2s E.1 E.2.1 d (Int32.ofInt_int16ToInt _).symm (k H locs ls hP hD hS hR hl)
theorem k_dup (E : gE D cl tys wd A p s m args meth c cc nL own ret) {v : Value} (d : decode cc pc = .ok (.dup, 1)) (hv : v.category = 1) (k : gK D cl wd lg A p l e R s m args below meth c nL QQ ρ σ (pc + 1) lv (v :: v :: st)) : gK D cl wd lg A p l e R s m args below meth c nL QQ ρ σ pc lv (v :: st) := fun H locs ls hP hD hS hR hl => lv_dup E.1 E.2.1 d hv (k H locs ls hP hD hS hR hl)
theorem k_dup2 (E : gE D cl tys wd A p s m args meth c cc nL own ret) {v u : Value} (d : decode cc pc = .ok (.dup2, 1)) (hv : v.category = 1) (hu : u.category = 1) (k : gK D cl wd lg A p l e R s m args below meth c nL QQ ρ σ (pc + 1) lv (v :: u :: v :: u :: st)) : gK D cl wd lg A p l e R s m args below meth c nL QQ ρ σ pc lv (v :: u :: st) := fun H locs ls hP hD hS hR hl => lv_dup2_11 E.1 E.2.1 d hv hu (k H locs ls hP hD hS hR hl)
theorem k_pop (E : gE D cl tys wd A p s m args meth c cc nL own ret) {v : Value} (d : decode cc pc = .ok (.pop, 1)) (hv : v.category = 1) (k : gK D cl wd lg A p l e R s m args below meth c nL QQ ρ σ (pc + 1) lv st) : gK D cl wd lg A p l e R s m args below meth c nL QQ ρ σ pc lv (v :: st) := fun H locs ls hP hD hS hR hl => lv_pop E.1 E.2.1 d hv (k H locs ls hP hD hS hR hl)
theorem k_goto (E : gE D cl tys wd A p s m args meth c cc nL own ret) {off : Int} {tgt : Nat} (d : decode cc pc = .ok (.goto off, 3)) (ht : (pc : Int) + off = (tgt : Int)) (k : gK D cl wd lg A p l e R s m args below meth c nL QQ ρ σ tgt lv st) : gK D cl wd lg A p l e R s m args below meth c nL QQ ρ σ pc lv st := fun H locs ls hP hD hS hR hl => lv_goto E.1 E.2.1 d ht (k H locs ls hP hD hS hR hl)
theorem k_icmp_eq_t (E : gE D cl tys wd A p s m args meth c cc nL own ret) {x y : Int} {off : Int} {tgt : Nat} (hx : in32 x) (hy : in32 y) (d : decode cc pc = .ok (.if_icmp .eq off, 3)) (ht : (pc : Int) + off = (tgt : Int)) (h : x = y) (k : gK D cl wd lg A p l e R s m args below meth c nL QQ ρ σ tgt lv st) : gK D cl wd lg A p l e R s m args below meth c nL QQ ρ σ pc lv (gI y :: gI x :: st) := fun H locs ls hP hD hS hR hl => lv_icmp_eq E.1 E.2.1 d ht (fun _ => (k H locs ls hP hD hS hR hl)) (fun q => absurd ((i_eq hx hy).mpr h) q)
theorem k_if_eq_t (E : gE D cl tys wd A p s m args meth c cc nL own ret) {x : Int} {off : Int} {tgt : Nat} (hx : in32 x) (d : decode cc pc = .ok (.ifCond .eq off, 3)) (ht : (pc : Int) + off = (tgt : Int)) (h : x = (0 : Int)) (k : gK D cl wd lg A p l e R s m args below meth c nL QQ ρ σ tgt lv st) : gK D cl wd lg A p l e R s m args below meth c nL QQ ρ σ pc lv (gI x :: st) := fun H locs ls hP hD hS hR hl => lv_if_eq E.1 E.2.1 d ht (fun _ => (k H locs ls hP hD hS hR hl)) (fun q => absurd ((i_eq hx (show in32 0 from ⟨by decide, by decide⟩)).mpr h) q)
theorem k_icmp_eq_f (E : gE D cl tys wd A p s m args meth c cc nL own ret) {x y : Int} {off : Int} {tgt : Nat} (hx : in32 x) (hy : in32 y) (d : decode cc pc = .ok (.if_icmp .eq off, 3)) (ht : (pc : Int) + off = (tgt : Int)) (h : ¬ x = y) (k : gK D cl wd lg A p l e R s m args below meth c nL QQ ρ σ (pc + 3) lv st) : gK D cl wd lg A p l e R s m args below meth c nL QQ ρ σ pc lv (gI y :: gI x :: st) := fun H locs ls hP hD hS hR hl => lv_icmp_eq E.1 E.2.1 d ht (fun q => absurd q (fun q => h ((i_eq hx hy).mp q))) (fun _ => (k H locs ls hP hD hS hR hl))
theorem k_if_eq_f (E : gE D cl tys wd A p s m args meth c cc nL own ret) {x : Int} {off : Int} {tgt : Nat} (hx : in32 x) (d : decode cc pc = .ok (.ifCond .eq off, 3)) (ht : (pc : Int) + off = (tgt : Int)) (h : ¬ x = (0 : Int)) (k : gK D cl wd lg A p l e R s m args below meth c nL QQ ρ σ (pc + 3) lv st) : gK D cl wd lg A p l e R s m args below meth c nL QQ ρ σ pc lv (gI x :: st) := fun H locs ls hP hD hS hR hl => lv_if_eq E.1 E.2.1 d ht (fun q => absurd q (fun q => h ((i_eq hx (show in32 0 from ⟨by decide, by decide⟩)).mp q))) (fun _ => (k H locs ls hP hD hS hR hl))
theorem k_icmp_ne_t (E : gE D cl tys wd A p s m args meth c cc nL own ret) {x y : Int} {off : Int} {tgt : Nat} (hx : in32 x) (hy : in32 y) (d : decode cc pc = .ok (.if_icmp .ne off, 3)) (ht : (pc : Int) + off = (tgt : Int)) (h : ¬ x = y) (k : gK D cl wd lg A p l e R s m args below meth c nL QQ ρ σ tgt lv st) : gK D cl wd lg A p l e R s m args below meth c nL QQ ρ σ pc lv (gI y :: gI x :: st) := fun H locs ls hP hD hS hR hl => lv_icmp_ne E.1 E.2.1 d ht (fun _ => (k H locs ls hP hD hS hR hl)) (fun q => absurd q (fun q => h ((i_eq hx hy).mp q)))
theorem k_if_ne_t (E : gE D cl tys wd A p s m args meth c cc nL own ret) {x : Int} {off : Int} {tgt : Nat} (hx : in32 x) (d : decode cc pc = .ok (.ifCond .ne off, 3)) (ht : (pc : Int) + off = (tgt : Int)) (h : ¬ x = (0 : Int)) (k : gK D cl wd lg A p l e R s m args below meth c nL QQ ρ σ tgt lv st) : gK D cl wd lg A p l e R s m args below meth c nL QQ ρ σ pc lv (gI x :: st) := fun H locs ls hP hD hS hR hl => lv_if_ne E.1 E.2.1 d ht (fun _ => (k H locs ls hP hD hS hR hl)) (fun q => absurd q (fun q => h ((i_eq hx (show in32 0 from ⟨by decide, by decide⟩)).mp q)))
theorem k_icmp_ne_f (E : gE D cl tys wd A p s m args meth c cc nL own ret) {x y : Int} {off : Int} {tgt : Nat} (hx : in32 x) (hy : in32 y) (d : decode cc pc = .ok (.if_icmp .ne off, 3)) (ht : (pc : Int) + off = (tgt : Int)) (h : x = y) (k : gK D cl wd lg A p l e R s m args below meth c nL QQ ρ σ (pc + 3) lv st) : gK D cl wd lg A p l e R s m args below meth c nL QQ ρ σ pc lv (gI y :: gI x :: st) := fun H locs ls hP hD hS hR hl => lv_icmp_ne E.1 E.2.1 d ht (fun q => absurd q (fun q => q ((i_eq hx hy).mpr h))) (fun _ => (k H locs ls hP hD hS hR hl))
theorem k_if_ne_f (E : gE D cl tys wd A p s m args meth c cc nL own ret) {x : Int} {off : Int} {tgt : Nat} (hx : in32 x) (d : decode cc pc = .ok (.ifCond .ne off, 3)) (ht : (pc : Int) + off = (tgt : Int)) (h : x = (0 : Int)) (k : gK D cl wd lg A p l e R s m args below meth c nL QQ ρ σ (pc + 3) lv st) : gK D cl wd lg A p l e R s m args below meth c nL QQ ρ σ pc lv (gI x :: st) := fun H locs ls hP hD hS hR hl => lv_if_ne E.1 E.2.1 d ht (fun q => absurd q (fun q => q ((i_eq hx (show in32 0 from ⟨by decide, by decide⟩)).mpr h))) (fun _ => (k H locs ls hP hD hS hR hl))
theorem k_icmp_lt_t (E : gE D cl tys wd A p s m args meth c cc nL own ret) {x y : Int} {off : Int} {tgt : Nat} (hx : in32 x) (hy : in32 y) (d : decode cc pc = .ok (.if_icmp .lt off, 3)) (ht : (pc : Int) + off = (tgt : Int)) (h : x < y) (k : gK D cl wd lg A p l e R s m args below meth c nL QQ ρ σ tgt lv st) : gK D cl wd lg A p l e R s m args below meth c nL QQ ρ σ pc lv (gI y :: gI x :: st) := fun H locs ls hP hD hS hR hl => lv_icmp_lt E.1 E.2.1 d ht (fun _ => (k H locs ls hP hD hS hR hl)) (fun q => absurd ((i_lt hx hy).mpr h) q)
theorem k_if_lt_t (E : gE D cl tys wd A p s m args meth c cc nL own ret) {x : Int} {off : Int} {tgt : Nat} (hx : in32 x) (d : decode cc pc = .ok (.ifCond .lt off, 3)) (ht : (pc : Int) + off = (tgt : Int)) (h : x < (0 : Int)) (k : gK D cl wd lg A p l e R s m args below meth c nL QQ ρ σ tgt lv st) : gK D cl wd lg A p l e R s m args below meth c nL QQ ρ σ pc lv (gI x :: st) := fun H locs ls hP hD hS hR hl => lv_if_lt E.1 E.2.1 d ht (fun _ => (k H locs ls hP hD hS hR hl)) (fun q => absurd ((i_lt hx (show in32 0 from ⟨by decide, by decide⟩)).mpr h) q)
theorem k_icmp_lt_f (E : gE D cl tys wd A p s m args meth c cc nL own ret) {x y : Int} {off : Int} {tgt : Nat} (hx : in32 x) (hy : in32 y) (d : decode cc pc = .ok (.if_icmp .lt off, 3)) (ht : (pc : Int) + off = (tgt : Int)) (h : ¬ x < y) (k : gK D cl wd lg A p l e R s m args below meth c nL QQ ρ σ (pc + 3) lv st) : gK D cl wd lg A p l e R s m args below meth c nL QQ ρ σ pc lv (gI y :: gI x :: st) := fun H locs ls hP hD hS hR hl => lv_icmp_lt E.1 E.2.1 d ht (fun q => absurd q (fun q => h ((i_lt hx hy).mp q))) (fun _ => (k H locs ls hP hD hS hR hl))
theorem k_if_lt_f (E : gE D cl tys wd A p s m args meth c cc nL own ret) {x : Int} {off : Int} {tgt : Nat} (hx : in32 x) (d : decode cc pc = .ok (.ifCond .lt off, 3)) (ht : (pc : Int) + off = (tgt : Int)) (h : ¬ x < (0 : Int)) (k : gK D cl wd lg A p l e R s m args below meth c nL QQ ρ σ (pc + 3) lv st) : gK D cl wd lg A p l e R s m args below meth c nL QQ ρ σ pc lv (gI x :: st) := fun H locs ls hP hD hS hR hl => lv_if_lt E.1 E.2.1 d ht (fun q => absurd q (fun q => h ((i_lt hx (show in32 0 from ⟨by decide, by decide⟩)).mp q))) (fun _ => (k H locs ls hP hD hS hR hl))
theorem k_icmp_ge_t (E : gE D cl tys wd A p s m args meth c cc nL own ret) {x y : Int} {off : Int} {tgt : Nat} (hx : in32 x) (hy : in32 y) (d : decode cc pc = .ok (.if_icmp .ge off, 3)) (ht : (pc : Int) + off = (tgt : Int)) (h : ¬ x < y) (k : gK D cl wd lg A p l e R s m args below meth c nL QQ ρ σ tgt lv st) : gK D cl wd lg A p l e R s m args below meth c nL QQ ρ σ pc lv (gI y :: gI x :: st) := fun H locs ls hP hD hS hR hl => lv_icmp_ge E.1 E.2.1 d ht (fun _ => (k H locs ls hP hD hS hR hl)) (fun q => absurd ((i_le hy hx).mpr (by omega)) q)
theorem k_if_ge_t (E : gE D cl tys wd A p s m args meth c cc nL own ret) {x : Int} {off : Int} {tgt : Nat} (hx : in32 x) (d : decode cc pc = .ok (.ifCond .ge off, 3)) (ht : (pc : Int) + off = (tgt : Int)) (h : ¬ x < (0 : Int)) (k : gK D cl wd lg A p l e R s m args below meth c nL QQ ρ σ tgt lv st) : gK D cl wd lg A p l e R s m args below meth c nL QQ ρ σ pc lv (gI x :: st) := fun H locs ls hP hD hS hR hl => lv_if_ge E.1 E.2.1 d ht (fun _ => (k H locs ls hP hD hS hR hl)) (fun q => absurd ((i_le (show in32 0 from ⟨by decide, by decide⟩) hx).mpr (by omega)) q)
theorem k_icmp_ge_f (E : gE D cl tys wd A p s m args meth c cc nL own ret) {x y : Int} {off : Int} {tgt : Nat} (hx : in32 x) (hy : in32 y) (d : decode cc pc = .ok (.if_icmp .ge off, 3)) (ht : (pc : Int) + off = (tgt : Int)) (h : x < y) (k : gK D cl wd lg A p l e R s m args below meth c nL QQ ρ σ (pc + 3) lv st) : gK D cl wd lg A p l e R s m args below meth c nL QQ ρ σ pc lv (gI y :: gI x :: st) := fun H locs ls hP hD hS hR hl => lv_icmp_ge E.1 E.2.1 d ht (fun q => absurd q (fun q => absurd ((i_le hy hx).mp q) (by omega))) (fun _ => (k H locs ls hP hD hS hR hl))
theorem k_if_ge_f (E : gE D cl tys wd A p s m args meth c cc nL own ret) {x : Int} {off : Int} {tgt : Nat} (hx : in32 x) (d : decode cc pc = .ok (.ifCond .ge off, 3)) (ht : (pc : Int) + off = (tgt : Int)) (h : x < (0 : Int)) (k : gK D cl wd lg A p l e R s m args below meth c nL QQ ρ σ (pc + 3) lv st) : gK D cl wd lg A p l e R s m args below meth c nL QQ ρ σ pc lv (gI x :: st) := fun H locs ls hP hD hS hR hl => lv_if_ge E.1 E.2.1 d ht (fun q => absurd q (fun q => absurd ((i_le (show in32 0 from ⟨by decide, by decide⟩) hx).mp q) (by omega))) (fun _ => (k H locs ls hP hD hS hR hl))
theorem k_icmp_gt_t (E : gE D cl tys wd A p s m args meth c cc nL own ret) {x y : Int} {off : Int} {tgt : Nat} (hx : in32 x) (hy : in32 y) (d : decode cc pc = .ok (.if_icmp .gt off, 3)) (ht : (pc : Int) + off = (tgt : Int)) (h : y < x) (k : gK D cl wd lg A p l e R s m args below meth c nL QQ ρ σ tgt lv st) : gK D cl wd lg A p l e R s m args below meth c nL QQ ρ σ pc lv (gI y :: gI x :: st) := fun H locs ls hP hD hS hR hl => lv_icmp_gt E.1 E.2.1 d ht (fun _ => (k H locs ls hP hD hS hR hl)) (fun q => absurd ((i_lt hy hx).mpr h) q)
theorem k_if_gt_t (E : gE D cl tys wd A p s m args meth c cc nL own ret) {x : Int} {off : Int} {tgt : Nat} (hx : in32 x) (d : decode cc pc = .ok (.ifCond .gt off, 3)) (ht : (pc : Int) + off = (tgt : Int)) (h : (0 : Int) < x) (k : gK D cl wd lg A p l e R s m args below meth c nL QQ ρ σ tgt lv st) : gK D cl wd lg A p l e R s m args below meth c nL QQ ρ σ pc lv (gI x :: st) := fun H locs ls hP hD hS hR hl => lv_if_gt E.1 E.2.1 d ht (fun _ => (k H locs ls hP hD hS hR hl)) (fun q => absurd ((i_lt (show in32 0 from ⟨by decide, by decide⟩) hx).mpr h) q)
theorem k_icmp_gt_f (E : gE D cl tys wd A p s m args meth c cc nL own ret) {x y : Int} {off : Int} {tgt : Nat} (hx : in32 x) (hy : in32 y) (d : decode cc pc = .ok (.if_icmp .gt off, 3)) (ht : (pc : Int) + off = (tgt : Int)) (h : ¬ y < x) (k : gK D cl wd lg A p l e R s m args below meth c nL QQ ρ σ (pc + 3) lv st) : gK D cl wd lg A p l e R s m args below meth c nL QQ ρ σ pc lv (gI y :: gI x :: st) := fun H locs ls hP hD hS hR hl => lv_icmp_gt E.1 E.2.1 d ht (fun q => absurd q (fun q => h ((i_lt hy hx).mp q))) (fun _ => (k H locs ls hP hD hS hR hl))
theorem k_if_gt_f (E : gE D cl tys wd A p s m args meth c cc nL own ret) {x : Int} {off : Int} {tgt : Nat} (hx : in32 x) (d : decode cc pc = .ok (.ifCond .gt off, 3)) (ht : (pc : Int) + off = (tgt : Int)) (h : ¬ (0 : Int) < x) (k : gK D cl wd lg A p l e R s m args below meth c nL QQ ρ σ (pc + 3) lv st) : gK D cl wd lg A p l e R s m args below meth c nL QQ ρ σ pc lv (gI x :: st) := fun H locs ls hP hD hS hR hl => lv_if_gt E.1 E.2.1 d ht (fun q => absurd q (fun q => h ((i_lt (show in32 0 from ⟨by decide, by decide⟩) hx).mp q))) (fun _ => (k H locs ls hP hD hS hR hl))
theorem k_icmp_le_t (E : gE D cl tys wd A p s m args meth c cc nL own ret) {x y : Int} {off : Int} {tgt : Nat} (hx : in32 x) (hy : in32 y) (d : decode cc pc = .ok (.if_icmp .le off, 3)) (ht : (pc : Int) + off = (tgt : Int)) (h : ¬ y < x) (k : gK D cl wd lg A p l e R s m args below meth c nL QQ ρ σ tgt lv st) : gK D cl wd lg A p l e R s m args below meth c nL QQ ρ σ pc lv (gI y :: gI x :: st) := fun H locs ls hP hD hS hR hl => lv_icmp_le E.1 E.2.1 d ht (fun _ => (k H locs ls hP hD hS hR hl)) (fun q => absurd ((i_le hx hy).mpr (by omega)) q)
theorem k_if_le_t (E : gE D cl tys wd A p s m args meth c cc nL own ret) {x : Int} {off : Int} {tgt : Nat} (hx : in32 x) (d : decode cc pc = .ok (.ifCond .le off, 3)) (ht : (pc : Int) + off = (tgt : Int)) (h : ¬ (0 : Int) < x) (k : gK D cl wd lg A p l e R s m args below meth c nL QQ ρ σ tgt lv st) : gK D cl wd lg A p l e R s m args below meth c nL QQ ρ σ pc lv (gI x :: st) := fun H locs ls hP hD hS hR hl => lv_if_le E.1 E.2.1 d ht (fun _ => (k H locs ls hP hD hS hR hl)) (fun q => absurd ((i_le hx (show in32 0 from ⟨by decide, by decide⟩)).mpr (by omega)) q)
theorem k_icmp_le_f (E : gE D cl tys wd A p s m args meth c cc nL own ret) {x y : Int} {off : Int} {tgt : Nat} (hx : in32 x) (hy : in32 y) (d : decode cc pc = .ok (.if_icmp .le off, 3)) (ht : (pc : Int) + off = (tgt : Int)) (h : y < x) (k : gK D cl wd lg A p l e R s m args below meth c nL QQ ρ σ (pc + 3) lv st) : gK D cl wd lg A p l e R s m args below meth c nL QQ ρ σ pc lv (gI y :: gI x :: st) := fun H locs ls hP hD hS hR hl => lv_icmp_le E.1 E.2.1 d ht (fun q => absurd q (fun q => absurd ((i_le hx hy).mp q) (by omega))) (fun _ => (k H locs ls hP hD hS hR hl))
theorem k_if_le_f (E : gE D cl tys wd A p s m args meth c cc nL own ret) {x : Int} {off : Int} {tgt : Nat} (hx : in32 x) (d : decode cc pc = .ok (.ifCond .le off, 3)) (ht : (pc : Int) + off = (tgt : Int)) (h : (0 : Int) < x) (k : gK D cl wd lg A p l e R s m args below meth c nL QQ ρ σ (pc + 3) lv st) : gK D cl wd lg A p l e R s m args below meth c nL QQ ρ σ pc lv (gI x :: st) := fun H locs ls hP hD hS hR hl => lv_if_le E.1 E.2.1 d ht (fun q => absurd q (fun q => absurd ((i_le hx (show in32 0 from ⟨by decide, by decide⟩)).mp q) (by omega))) (fun _ => (k H locs ls hP hD hS hR hl))
theorem k_lcmp (E : gE D cl tys wd A p s m args meth c cc nL own ret) {x y : Int} (d : decode cc pc = .ok (.lcmp, 1)) (hx : in64 x) (hy : in64 y) (k : gK D cl wd lg A p l e R s m args below meth c nL QQ ρ σ (pc + 1) lv (gI (if y < x then 1 else if x = y then 0 else -1) :: st)) : gK D cl wd lg A p l e R s m args below meth c nL QQ ρ σ pc lv (gL y :: gL x :: st) := by
  intro H locs ls hP hD hS hR hl
  have e9 : Int32.ofInt (if y < x then 1 else if x = y then 0 else -1) = lg_cmp (Int64.ofInt x) (Int64.ofInt y) := by
    unfold lg_cmp
    by_cases h1 : y < x
    · rw [if_pos h1, if_pos ((l_lt hy hx).mpr h1)]; rfl
    · rw [if_neg h1, if_neg (fun q => h1 ((l_lt hy hx).mp q))]
      by_cases h2 : x = y
      · rw [if_pos h2, if_pos (by rw [h2])]; rfl
      · rw [if_neg h2, if_neg (fun q => h2 ((l_eq hx hy).mp q))]; rfl
  refine W.lcmp E.1 E.2.1 d ?_
  rw [← e9]
  exact k H locs ls hP hD hS hR hl
theorem k_tabIn (E : gE D cl tys wd A p s m args meth c cc nL own ret) {x : Int} {dflt lo hi : Int} {offs : Array Int} {len : Nat} {off : Int} {tgt : Nat} (d : decode cc pc = .ok (.tableswitch dflt lo hi offs, len)) (hx : in32 x) (h1 : lo ≤ x) (h2 : x ≤ hi) (ho : offs[(x - lo).toNat]? = some off) (ht : (pc : Int) + off = (tgt : Int)) (k : gK D cl wd lg A p l e R s m args below meth c nL QQ ρ σ tgt lv st) : gK D cl wd lg A p l e R s m args below meth c nL QQ ρ σ pc lv (gI x :: st) := by
  intro H locs ls hP hD hS hR hl
  have e : (Int32.ofInt x).toInt = x := Int32.toInt_ofInt_of_le hx.1 hx.2
  exact lv_tableIn E.1 E.2.1 d (by rw [e]; omega) (by rw [e]; omega) (by rw [e]; exact ho) ht (k H locs ls hP hD hS hR hl)
theorem k_tabOut (E : gE D cl tys wd A p s m args meth c cc nL own ret) {x : Int} {dflt lo hi : Int} {offs : Array Int} {len : Nat} {tgt : Nat} (d : decode cc pc = .ok (.tableswitch dflt lo hi offs, len)) (hx : in32 x) (h : x < lo ∨ hi < x) (ht : (pc : Int) + dflt = (tgt : Int)) (k : gK D cl wd lg A p l e R s m args below meth c nL QQ ρ σ tgt lv st) : gK D cl wd lg A p l e R s m args below meth c nL QQ ρ σ pc lv (gI x :: st) := by
  intro H locs ls hP hD hS hR hl
  have e : (Int32.ofInt x).toInt = x := Int32.toInt_ofInt_of_le hx.1 hx.2
  exact lv_tableOut E.1 E.2.1 d (by rw [e]; exact h) ht (k H locs ls hP hD hS hR hl)
theorem k_lookup (E : gE D cl tys wd A p s m args meth c cc nL own ret) {x : Int} {dflt : Int} {ps : Array (Int × Int)} {len : Nat} {off : Int} {tgt : Nat} (d : decode cc pc = .ok (.lookupswitch dflt ps, len)) (hx : in32 x) (hp : (ps.toList.zip (ps.toList.drop 1)).all (fun (a, next) => a.1 < next.1) = true) (ho : Op.lookupswitch.offset ps.toList dflt x = off) (ht : (pc : Int) + off = (tgt : Int)) (k : gK D cl wd lg A p l e R s m args below meth c nL QQ ρ σ tgt lv st) : gK D cl wd lg A p l e R s m args below meth c nL QQ ρ σ pc lv (gI x :: st) := by
  intro H locs ls hP hD hS hR hl
  have e : (Int32.ofInt x).toInt = x := Int32.toInt_ofInt_of_le hx.1 hx.2
  exact lv_lookup E.1 E.2.1 d hp (by rw [e]; exact ho) ht (k H locs ls hP hD hS hR hl)
theorem k_iaload (E : gE D cl tys wd A p s m args meth c cc nL own ret) {a n k q0 t0 : Nat} {cA : ClassId} {i : Int} (ha : (wd σ)[q0]? = some (a, .inl (cA, n, .inl (fun j => Int32.ofInt (σ k (j : Int)))))) (ht : tys[t0]? = some (cA, .int)) (hk : lg k = false) (hn : n < 2147483648) (h0 : 0 ≤ i) (h1 : i < n) (d : decode cc pc = .ok (.iaload, 1)) (kk : in32 (σ k i) → gK D cl wd lg A p l e R s m args below meth c nL QQ ρ σ (pc + 1) lv (gI (σ k i) :: st)) : gK D cl wd lg A p l e R s m args below meth c nL QQ ρ σ pc lv (gI i :: .ref a :: st) := by
  intro H locs ls hP hD hS hR hl
  refine va_iald E.1 E.2.1 E.2.2.2.2.2.1 hP q0 t0 ha ht (i_in h0 h1 hn) d ?_
  rw [i_cl h0 (by omega)]
  exact kk ((hR k i).1 hk) H locs ls hP hD hS hR hl
theorem k_laload (E : gE D cl tys wd A p s m args meth c cc nL own ret) {a n k q0 t0 : Nat} {cA : ClassId} {i : Int} (ha : (wd σ)[q0]? = some (a, .inl (cA, n, .inr (.inl (fun j => Int64.ofInt (σ k (j : Int))))))) (ht : tys[t0]? = some (cA, .long)) (hk : lg k = true) (hn : n < 2147483648) (h0 : 0 ≤ i) (h1 : i < n) (d : decode cc pc = .ok (.laload, 1)) (kk : in64 (σ k i) → gK D cl wd lg A p l e R s m args below meth c nL QQ ρ σ (pc + 1) lv (gL (σ k i) :: st)) : gK D cl wd lg A p l e R s m args below meth c nL QQ ρ σ pc lv (gI i :: .ref a :: st) := by
  intro H locs ls hP hD hS hR hl
  refine va_lald E.1 E.2.1 E.2.2.2.2.2.1 hP q0 t0 ha ht (i_in h0 h1 hn) d ?_
  rw [i_cl h0 (by omega)]
  exact kk ((hR k i).2 hk) H locs ls hP hD hS hR hl
theorem k_iastore (E : gE D cl tys wd A p s m args meth c cc nL own ret) {a n k q0 t0 : Nat} {cA : ClassId} {i v : Int} (ha : (wd σ)[q0]? = some (a, .inl (cA, n, .inl (fun j => Int32.ofInt (σ k (j : Int)))))) (hw : (wd σ).set q0 (a, .inl (cA, n, .inl (fun j => Int32.ofInt (mset σ k i v k (j : Int))))) = wd (mset σ k i v)) (ht : tys[t0]? = some (cA, .int)) (hk : lg k = false) (hn : n < 2147483648) (h0 : 0 ≤ i) (h1 : i < n) (hv : in32 v) (d : decode cc pc = .ok (.iastore, 1)) (kk : gK D cl wd lg A p l e R s m args below meth c nL QQ ρ (mset σ k i v) (pc + 1) lv st) : gK D cl wd lg A p l e R s m args below meth c nL QQ ρ σ pc lv (gI v :: gI i :: .ref a :: st) := by
  intro H locs ls hP hD hS hR hl
  refine va_iast E.1 E.2.1 E.2.2.2.2.2.1 hP hD hS q0 t0 ha ht (i_in h0 h1 hn) d (fun H1 locs1 hP1 hD1 hS1 => ?_)
  rw [i_upd h0 (by omega), hw] at hP1 hD1
  exact kk H1 locs1 ls hP1 hD1 hS1 (hR.set32 hk hv) hl
theorem k_lastore (E : gE D cl tys wd A p s m args meth c cc nL own ret) {a n k q0 t0 : Nat} {cA : ClassId} {i v : Int} (ha : (wd σ)[q0]? = some (a, .inl (cA, n, .inr (.inl (fun j => Int64.ofInt (σ k (j : Int))))))) (hw : (wd σ).set q0 (a, .inl (cA, n, .inr (.inl (fun j => Int64.ofInt (mset σ k i v k (j : Int)))))) = wd (mset σ k i v)) (ht : tys[t0]? = some (cA, .long)) (hk : lg k = true) (hn : n < 2147483648) (h0 : 0 ≤ i) (h1 : i < n) (hv : in64 v) (d : decode cc pc = .ok (.lastore, 1)) (kk : gK D cl wd lg A p l e R s m args below meth c nL QQ ρ (mset σ k i v) (pc + 1) lv st) : gK D cl wd lg A p l e R s m args below meth c nL QQ ρ σ pc lv (gL v :: gI i :: .ref a :: st) := by
  intro H locs ls hP hD hS hR hl
  refine va_last E.1 E.2.1 E.2.2.2.2.2.1 hP hD hS q0 t0 ha ht (i_in h0 h1 hn) d (fun H1 locs1 hP1 hD1 hS1 => ?_)
  rw [i_updL h0 (by omega), hw] at hP1 hD1
  exact kk H1 locs1 ls hP1 hD1 hS1 (hR.set64 hk hv) hl
theorem k_aaload (E : gE D cl tys wd A p s m args meth c cc nL own ret) {a n b q0 t0 : Nat} {ad : Nat → Nat} {cA : ClassId} {i : Int} {C : String} (ha : (wd σ)[q0]? = some (a, .inl (cA, n, .inr (.inr (.inr (.inr (fun j => some (ad (b + j))))))))) (ht : tys[t0]? = some (cA, .object C)) (hn : n < 2147483648) (h0 : 0 ≤ i) (h1 : i < n) (d : decode cc pc = .ok (.aaload, 1)) (kk : gK D cl wd lg A p l e R s m args below meth c nL QQ ρ σ (pc + 1) lv (.ref (ad (b + i.toNat)) :: st)) : gK D cl wd lg A p l e R s m args below meth c nL QQ ρ σ pc lv (gI i :: .ref a :: st) := by
  intro H locs ls hP hD hS hR hl
  refine va_aldq E.1 E.2.1 E.2.2.2.2.2.1 hP q0 t0 ha ht (i_in h0 h1 hn) d ?_
  have e9 : (Int32.ofInt i).toNatClampNeg = i.toNat := by have := i_cl h0 (by omega); omega
  show W _ _ _ _ _ _ _ _ _ _ _ _ _ _ _ (F0 m (pc + 1) ls (.ref (ad (b + (Int32.ofInt i).toNatClampNeg)) :: st))
  rw [e9]
  exact kk H locs ls hP hD hS hR hl
theorem k_aaloadA (E : gE D cl tys wd A p s m args meth c cc nL own ret) {a n b q0 t0 : Nat} {ad : Nat → Nat} {cA : ClassId} {i : Int}  (ha : (wd σ)[q0]? = some (a, .inl (cA, n, .inr (.inr (.inr (.inr (fun j => some (ad (b + j))))))))) (ht : tys[t0]? = some (cA, .array .int)) (hn : n < 2147483648) (h0 : 0 ≤ i) (h1 : i < n) (d : decode cc pc = .ok (.aaload, 1)) (kk : gK D cl wd lg A p l e R s m args below meth c nL QQ ρ σ (pc + 1) lv (.ref (ad (b + i.toNat)) :: st)) : gK D cl wd lg A p l e R s m args below meth c nL QQ ρ σ pc lv (gI i :: .ref a :: st) := by
  intro H locs ls hP hD hS hR hl
  refine W.aald (v := va_rf ((fun j => some (ad (b + j))) (Int32.ofInt i).toNatClampNeg)) (ty := .array .int) E.1 E.2.1 (hP q0 _ ha) ((E.2.2.2.2.2.1.2 t0 _ ht).1 n (fun j => va_rf ((fun j => some (ad (b + j))) j))) rfl (fun q => by cases q) (by show ¬ (Int32.ofInt i < 0 ∨ (arrV _ _ _).slots.size ≤ _); rw [arrV_size]; exact i_in h0 h1 hn) (by show (arrV _ _ _).slots[_]? = _; rw [arrV_read _ _ (show (Int32.ofInt i).toNatClampNeg < n by have := i_cl h0 (by omega); omega)]) rfl rfl d ?_
  have e9 : (Int32.ofInt i).toNatClampNeg = i.toNat := by have := i_cl h0 (by omega); omega
  show W _ _ _ _ _ _ _ _ _ _ _ _ _ _ _ (F0 m (pc + 1) ls (.ref (ad (b + (Int32.ofInt i).toNatClampNeg)) :: st))
  rw [e9]
  exact kk H locs ls hP hD hS hR hl
theorem k_getf (E : gE D cl tys wd A p s m args meth c cc nL own ret) {a q0 ci N index f : Nat} {ref C : String} {T : u_T} {fs : List Value} {v : Value} (hin : ∀ w ∈ u_ws C T N, w ∈ gBIG) (ha : (wd σ)[q0]? = some (a, .inr (ci, fs))) (hc : cl[ci]? = some (C, T, N)) (hf : f < N) (hlink : Cond.fieldLink own index ref (T f).2.1 (T f).2.2.1 ∈ gBIG) (hsame : (T f).1 = ref) (hv : fs[f]? = some v) (d : decode cc pc = .ok (.getfield index, 3)) (k : gK D cl wd lg A p l e R s m args below meth c nL QQ ρ σ (pc + 3) lv (v :: st)) : gK D cl wd lg A p l e R s m args below meth c nL QQ ρ σ pc lv (.ref a :: st) := fun H locs ls hP hD hS hR hl => va_get E.1 E.2.1 E.2.2.2.2.1 hin E.2.2.2.1 E.2.2.2.2.2.1 hP q0 ha hc f hf (E.2.2.2.2.1 _ hlink) (fun x hx => by rw [← hsame]; exact hx) hv d (k H locs ls hP hD hS hR hl)
theorem k_getfI (E : gE D cl tys wd A p s m args meth c cc nL own ret) {a q0 ci N index f : Nat} {ref C : String} {T : u_T} {fs : List Value} {k : Nat} (hin : ∀ w ∈ u_ws C T N, w ∈ gBIG) (ha : (wd σ)[q0]? = some (a, .inr (ci, fs))) (hc : cl[ci]? = some (C, T, N)) (hf : f < N) (hlink : Cond.fieldLink own index ref (T f).2.1 (T f).2.2.1 ∈ gBIG) (hsame : (T f).1 = ref) (hv : fs[f]? = some (gI (σ k 0))) (hk : lg k = false) (d : decode cc pc = .ok (.getfield index, 3)) (kk : in32 (σ k 0) → gK D cl wd lg A p l e R s m args below meth c nL QQ ρ σ (pc + 3) lv (gI (σ k 0) :: st)) : gK D cl wd lg A p l e R s m args below meth c nL QQ ρ σ pc lv (.ref a :: st) := fun H locs ls hP hD hS hR hl => va_get E.1 E.2.1 E.2.2.2.2.1 hin E.2.2.2.1 E.2.2.2.2.2.1 hP q0 ha hc f hf (E.2.2.2.2.1 _ hlink) (fun x hx => by rw [← hsame]; exact hx) hv d (kk ((hR k 0).1 hk) H locs ls hP hD hS hR hl)
theorem k_getfJ (E : gE D cl tys wd A p s m args meth c cc nL own ret) {a q0 ci N index f : Nat} {ref C : String} {T : u_T} {fs : List Value} {k : Nat} (hin : ∀ w ∈ u_ws C T N, w ∈ gBIG) (ha : (wd σ)[q0]? = some (a, .inr (ci, fs))) (hc : cl[ci]? = some (C, T, N)) (hf : f < N) (hlink : Cond.fieldLink own index ref (T f).2.1 (T f).2.2.1 ∈ gBIG) (hsame : (T f).1 = ref) (hv : fs[f]? = some (gL (σ k 0))) (hk : lg k = true) (d : decode cc pc = .ok (.getfield index, 3)) (kk : in64 (σ k 0) → gK D cl wd lg A p l e R s m args below meth c nL QQ ρ σ (pc + 3) lv (gL (σ k 0) :: st)) : gK D cl wd lg A p l e R s m args below meth c nL QQ ρ σ pc lv (.ref a :: st) := fun H locs ls hP hD hS hR hl => va_get E.1 E.2.1 E.2.2.2.2.1 hin E.2.2.2.1 E.2.2.2.2.2.1 hP q0 ha hc f hf (E.2.2.2.2.1 _ hlink) (fun x hx => by rw [← hsame]; exact hx) hv d (kk ((hR k 0).2 hk) H locs ls hP hD hS hR hl)
theorem k_putfI (E : gE D cl tys wd A p s m args meth c cc nL own ret) {a q0 ci N index f : Nat} {ref C : String} {T : u_T} {fs : List Value} {k : Nat} {v : Int} (ty0 : Nat → FieldType) (hty : ∀ k, k < N → parseFieldDescriptor (T k).2.2.1 = some (ty0 k)) (hnm : ∀ a, a < N → ∀ b, b < N → a ≠ b → (T a).2.1 ≠ (T b).2.1) (hin : ∀ w ∈ u_ws C T N, w ∈ gBIG) (ha : (wd σ)[q0]? = some (a, .inr (ci, fs))) (hc : cl[ci]? = some (C, T, N)) (hf : f < N) (hlink : Cond.fieldLink own index ref (T f).2.1 (T f).2.2.1 ∈ gBIG) (hsame : (T f).1 = ref) (hfin : (T f).2.2.2 = false) (hd : parseFieldDescriptor (T f).2.2.1 = some .int) (hl2 : f < fs.length) (hw : (wd σ).set q0 (a, .inr (ci, fs.set f (gI v))) = wd (mset σ k 0 v)) (hk : lg k = false) (hv : in32 v) (d : decode cc pc = .ok (.putfield index, 3)) (kk : gK D cl wd lg A p l e R s m args below meth c nL QQ ρ (mset σ k 0 v) (pc + 3) lv st) : gK D cl wd lg A p l e R s m args below meth c nL QQ ρ σ pc lv (gI v :: .ref a :: st) := by
  intro H locs ls hP hD hS hR hl
  refine va_put E.1 E.2.1 E.2.2.2.2.1 hin ty0 hty hnm E.2.2.2.1 E.2.2.2.2.2.1 hP hD hS q0 ha hc f hf (E.2.2.2.2.1 _ hlink) (fun x hx => by rw [← hsame]; exact hx) hfin hd rfl rfl hl2 d (fun H1 locs1 hP1 hD1 hS1 => ?_)
  rw [hw] at hP1 hD1
  exact kk H1 locs1 ls hP1 hD1 hS1 (hR.set32 hk hv) hl
theorem k_putfZ (E : gE D cl tys wd A p s m args meth c cc nL own ret) {a q0 ci N index f : Nat} {ref C : String} {T : u_T} {fs : List Value} {k : Nat} {v : Int} (ty0 : Nat → FieldType) (hty : ∀ k, k < N → parseFieldDescriptor (T k).2.2.1 = some (ty0 k)) (hnm : ∀ a, a < N → ∀ b, b < N → a ≠ b → (T a).2.1 ≠ (T b).2.1) (hin : ∀ w ∈ u_ws C T N, w ∈ gBIG) (ha : (wd σ)[q0]? = some (a, .inr (ci, fs))) (hc : cl[ci]? = some (C, T, N)) (hf : f < N) (hlink : Cond.fieldLink own index ref (T f).2.1 (T f).2.2.1 ∈ gBIG) (hsame : (T f).1 = ref) (hfin : (T f).2.2.2 = false) (hd : parseFieldDescriptor (T f).2.2.1 = some .boolean) (hl2 : f < fs.length) (hw : (wd σ).set q0 (a, .inr (ci, fs.set f (gI v))) = wd (mset σ k 0 v)) (hk : lg k = false) (hv : v = 0 ∨ v = 1) (d : decode cc pc = .ok (.putfield index, 3)) (kk : gK D cl wd lg A p l e R s m args below meth c nL QQ ρ (mset σ k 0 v) (pc + 3) lv st) : gK D cl wd lg A p l e R s m args below meth c nL QQ ρ σ pc lv (gI v :: .ref a :: st) := by
  intro H locs ls hP hD hS hR hl
  refine va_put E.1 E.2.1 E.2.2.2.2.1 hin ty0 hty hnm E.2.2.2.1 E.2.2.2.2.2.1 hP hD hS q0 ha hc f hf (E.2.2.2.2.1 _ hlink) (fun x hx => by rw [← hsame]; exact hx) hfin hd (by rcases hv with rfl | rfl <;> rfl) (by rcases hv with rfl | rfl <;> rfl) hl2 d (fun H1 locs1 hP1 hD1 hS1 => ?_)
  rw [hw] at hP1 hD1
  exact kk H1 locs1 ls hP1 hD1 hS1 (hR.set32 hk (by rcases hv with rfl | rfl <;> exact ⟨by decide, by decide⟩)) hl
theorem k_putfJ (E : gE D cl tys wd A p s m args meth c cc nL own ret) {a q0 ci N index f : Nat} {ref C : String} {T : u_T} {fs : List Value} {k : Nat} {v : Int} (ty0 : Nat → FieldType) (hty : ∀ k, k < N → parseFieldDescriptor (T k).2.2.1 = some (ty0 k)) (hnm : ∀ a, a < N → ∀ b, b < N → a ≠ b → (T a).2.1 ≠ (T b).2.1) (hin : ∀ w ∈ u_ws C T N, w ∈ gBIG) (ha : (wd σ)[q0]? = some (a, .inr (ci, fs))) (hc : cl[ci]? = some (C, T, N)) (hf : f < N) (hlink : Cond.fieldLink own index ref (T f).2.1 (T f).2.2.1 ∈ gBIG) (hsame : (T f).1 = ref) (hfin : (T f).2.2.2 = false) (hd : parseFieldDescriptor (T f).2.2.1 = some .long) (hl2 : f < fs.length) (hw : (wd σ).set q0 (a, .inr (ci, fs.set f (gL v))) = wd (mset σ k 0 v)) (hk : lg k = true) (hv : in64 v) (d : decode cc pc = .ok (.putfield index, 3)) (kk : gK D cl wd lg A p l e R s m args below meth c nL QQ ρ (mset σ k 0 v) (pc + 3) lv st) : gK D cl wd lg A p l e R s m args below meth c nL QQ ρ σ pc lv (gL v :: .ref a :: st) := by
  intro H locs ls hP hD hS hR hl
  refine va_put E.1 E.2.1 E.2.2.2.2.1 hin ty0 hty hnm E.2.2.2.1 E.2.2.2.2.2.1 hP hD hS q0 ha hc f hf (E.2.2.2.2.1 _ hlink) (fun x hx => by rw [← hsame]; exact hx) hfin hd rfl rfl hl2 d (fun H1 locs1 hP1 hD1 hS1 => ?_)
  rw [hw] at hP1 hD1
  exact kk H1 locs1 ls hP1 hD1 hS1 (hR.set64 hk hv) hl
theorem k_idivN (E : gE D cl tys wd A p s m args meth c cc nL own ret) {x y : Int} (hx : in32 x) (hy : in32 y) (h0 : 0 ≤ x) (h1 : 0 < y) (d : decode cc pc = .ok (.idiv, 1)) (k : gK D cl wd lg A p l e R s m args below meth c nL QQ ρ σ (pc + 1) lv (gI (x / y) :: st)) : gK D cl wd lg A p l e R s m args below meth c nL QQ ρ σ pc lv (gI y :: gI x :: st) := k_idiv E d hx hy (by omega) (by rw [Int.tdiv_eq_ediv_of_nonneg h0]; exact k)
theorem k_iremN (E : gE D cl tys wd A p s m args meth c cc nL own ret) {x y : Int} (hx : in32 x) (hy : in32 y) (h0 : 0 ≤ x) (h1 : 0 < y) (d : decode cc pc = .ok (.irem, 1)) (k : gK D cl wd lg A p l e R s m args below meth c nL QQ ρ σ (pc + 1) lv (gI (x % y) :: st)) : gK D cl wd lg A p l e R s m args below meth c nL QQ ρ σ pc lv (gI y :: gI x :: st) := k_irem E d hx hy (by omega) (by rw [Int.tmod_eq_emod_of_nonneg h0]; exact k)
theorem k_ldivN (E : gE D cl tys wd A p s m args meth c cc nL own ret) {x y : Int} (hx : in64 x) (hy : in64 y) (h0 : 0 ≤ x) (h1 : 0 < y) (d : decode cc pc = .ok (.ldiv, 1)) (k : gK D cl wd lg A p l e R s m args below meth c nL QQ ρ σ (pc + 1) lv (gL (x / y) :: st)) : gK D cl wd lg A p l e R s m args below meth c nL QQ ρ σ pc lv (gL y :: gL x :: st) := k_ldiv E d hx hy (by omega) (by rw [Int.tdiv_eq_ediv_of_nonneg h0]; exact k)
theorem k_lremN (E : gE D cl tys wd A p s m args meth c cc nL own ret) {x y : Int} (hx : in64 x) (hy : in64 y) (h0 : 0 ≤ x) (h1 : 0 < y) (d : decode cc pc = .ok (.lrem, 1)) (k : gK D cl wd lg A p l e R s m args below meth c nL QQ ρ σ (pc + 1) lv (gL (x % y) :: st)) : gK D cl wd lg A p l e R s m args below meth c nL QQ ρ σ pc lv (gL y :: gL x :: st) := k_lrem E d hx hy (by omega) (by rw [Int.tmod_eq_emod_of_nonneg h0]; exact k)
end GK
section GR
variable {D : va_G} {cl : List vw_C} {tys : List (ClassId × FieldType)} {wd : gMem → va_W} {lg : Nat → Bool} {A : Nat → Prop} {p : Program} {l : Launch} {e : Env} {R : Room} {s : State} {m : MethodId} {args : Array Value} {below : List Frame} {meth : Method} {c : Code} {nL : Nat} {σ : gMem} {pc : Nat} {lv : List (Nat × Value)} {cc : ByteArray} {own : String}
def gQQ (D : va_G) (cl : List vw_C) (wd : gMem → va_W) (lg : Nat → Bool) (A : Nat → Prop) (kd : Int → Option Value) (rg : Int → Prop) (below : List Frame) (args : Array Value) (s : State) : gRes → State → Prop := fun ρ => MQ below (gQ D cl wd lg A kd rg ρ) args s 0 0 A
theorem k_iret (E : gE D cl tys wd A p s m args meth c cc nL own (some .int)) {z : Int} (d : decode cc pc = .ok (.ireturn, 1)) (hr : in32 z) : gK D cl wd lg A p l e R s m args below meth c nL (gQQ D cl wd lg A kI in32 below args s) (z, σ) σ pc lv [gI z] := fun H locs ls hP hD hS hR hl => W.iret E.1 E.2.1 E.2.2.2.2.2.2.2.2.1 (fun t ht hW => ⟨rfl, hr, by rw [ht]; exact hP, hD, hR, hS.F ht⟩) hS.2.2 d E.2.2.2.2.2.2.1
theorem k_zret (E : gE D cl tys wd A p s m args meth c cc nL own (some .boolean)) {z : Int} (d : decode cc pc = .ok (.ireturn, 1)) (hr : rgZ z) : gK D cl wd lg A p l e R s m args below meth c nL (gQQ D cl wd lg A kI rgZ below args s) (z, σ) σ pc lv [gI z] := fun H locs ls hP hD hS hR hl => W.zret E.1 E.2.1 E.2.2.2.2.2.2.2.2.1 (by rcases hr with rfl | rfl <;> rfl) (fun t ht hW => ⟨rfl, hr, by rw [ht]; exact hP, hD, hR, hS.F ht⟩) hS.2.2 d E.2.2.2.2.2.2.1
theorem k_lret (E : gE D cl tys wd A p s m args meth c cc nL own (some .long)) {z : Int} (d : decode cc pc = .ok (.lreturn, 1)) (hr : in64 z) : gK D cl wd lg A p l e R s m args below meth c nL (gQQ D cl wd lg A kJ in64 below args s) (z, σ) σ pc lv [gL z] := fun H locs ls hP hD hS hR hl => W.lret E.1 E.2.1 E.2.2.2.2.2.2.2.2.1 (fun t ht hW => ⟨rfl, hr, by rw [ht]; exact hP, hD, hR, hS.F ht⟩) hS.2.2 d E.2.2.2.2.2.2.1
theorem k_vret (E : gE D cl tys wd A p s m args meth c cc nL own none) (d : decode cc pc = .ok (.return_, 1)) : gK D cl wd lg A p l e R s m args below meth c nL (gQQ D cl wd lg A kV rgV below args s) (0, σ) σ pc lv [] := fun H locs ls hP hD hS hR hl => W.vret E.1 E.2.1 E.2.2.2.2.2.2.2.2.1 (fun t ht hW => ⟨rfl, trivial, by rw [ht]; exact hP, hD, hR, hS.F ht⟩) hS.2.2 d E.2.2.2.2.2.2.1
end GR
theorem gA_D {wd : gMem → va_W} (hwd : ∀ σ, (wd σ).map (·.1) = (wd (fun _ _ => 0)).map (·.1)) {σ : gMem} {sz : Nat} {B : Nat → Prop} (h : va_D B (wd σ)) : va_D (gA wd sz) (wd σ) := by
  refine ⟨h.1, fun k q hq => ?_⟩
  have h1 : ((wd σ).map (·.1))[k]? = some q.1 := by rw [List.getElem?_map, hq]; rfl
  rw [hwd, List.getElem?_map] at h1
  cases h2 : (wd (fun _ _ => 0))[k]? with
  | none => rw [h2] at h1; cases h1
  | some q2 =>
    rw [h2] at h1
    refine Or.inl ⟨k, q2.2, ?_⟩
    rw [h2]
    have h3 : q2.1 = q.1 := Option.some.inj h1
    rw [← h3]
theorem gA_mono {wd : gMem → va_W} {a b : Nat} (h : a ≤ b) {q : Nat} (hq : gA wd b q) : gA wd a q := hq.imp id (fun h2 => Nat.le_trans h h2)
theorem gPre_moved {D : va_G} {cl : List vw_C} {tys : List (ClassId × FieldType)} {wd : gMem → va_W} {lg : Nat → Bool} {σ : gMem} {U : State} {g : JFrame} {mk : MethodId} {a : Array Value} (h : gPre D cl tys wd lg σ U) : gPre D cl tys wd lg σ (U.calling g mk a) := ⟨h.1, va_K.moved (u := U) (U := U.calling g mk a) (Vm.Alike.refl U.vm) h.2.1, h.2.2.1, h.2.2.2.1, fun w hw => va_Nw.same (u := U) (gNEST_tbl w hw) rfl (h.2.2.2.2 w hw)⟩
theorem gNw_warm {s U : State} (hW : s.WarmedH U.vm) (h : ∀ w ∈ gNEST, va_Nw w s) : ∀ w ∈ gNEST, va_Nw w U := by
  intro w hw
  have h1 := h w hw
  simp only [gNEST, List.mem_cons, List.not_mem_nil, or_false] at hw
  rcases hw with rfl | rfl | rfl <;> exact va_Nw.warmM hW h1
theorem gC_of {l : Launch} {y : MethodName} {b : ByteArray} {n : Nat} {ret : Option FieldType} {fr lo : Nat} {D : va_G} {cl : List vw_C} {tys : List (ClassId × FieldType)} {wd : gMem → va_W} {lg : Nat → Bool} {kd : Int → Option Value} {rg : Int → Prop} {av : List Value} {σ : gMem} {ρ : gRes}
    (hy : plainName y.cls = true) (hwd : ∀ σ, (wd σ).map (·.1) = (wd (fun _ _ => 0)).map (·.1)) (hlen : (lg_sl av).length ≤ n)
    (body : ∀ (A : Nat → Prop) (p : Program) (e : Env) (R : Room) (s : State) (m : MethodId) (args : Array Value) (below : List Frame) (meth : Method) (c : Code), R = { frames := fr, cells := 0, slots := 0, locals := lo } → gE D cl tys wd A p s m args meth c b n y.cls ret → gK D cl wd lg A p l e R s m args below meth c n (gQQ D cl wd lg A kd rg below args s) ρ σ 0 (lv_args 0 av) []) : gC l y b n ret fr lo D cl tys wd lg kd rg av σ ρ := by
  intro sz
  refine Met.ofW (cc := b) (maxL := n) (ret := ret) hy rfl ?_
  intro p e s m args below meth c s₁ B hml hv
  obtain ⟨rfl, hsz, hP, hK, hD0, hR, hN⟩ := hv
  subst hsz
  have hts := atoms_spec (ws := .code y b n ret :: gBIG) B.pre
  have hE : gE D cl tys wd (gA wd s.heap.size) p s m av.toArray meth c b n y.cls ret := ⟨B.exec, B.bytes, hml, findClass_of_methodNamed B.named, fun w hw => hts w (List.mem_cons_of_mem _ hw), hK, B.notSynchronized, fun q h => Or.inr h, B.returns, hN, rfl, hwd⟩
  rw [lg_entry_eq]
  exact body (gA wd s.heap.size) p e _ s m av.toArray below meth c rfl hE s.heap [] _ hP (gA_D hwd hD0) va_S.rf hR (lv_entry av hlen)
section GCALL
variable {D : va_G} {cl : List vw_C} {tys : List (ClassId × FieldType)} {wd : gMem → va_W} {lg : Nat → Bool} {A : Nat → Prop} {p : Program} {l : Launch} {e : Env} {R : Room} {s : State} {m : MethodId} {args : Array Value} {below : List Frame} {meth : Method} {c : Code} {nL : Nat} {QQ : gRes → State → Prop} {ρ : gRes} {σ : gMem} {pc : Nat} {lv : List (Nat × Value)} {st : List Value} {cc : ByteArray} {own : String} {ret : Option FieldType}
theorem g_after {kd : Int → Option Value} {rg : Int → Prop} {ρ1 : gRes} {H : Heap} {locs : List Loc} {a : Array Value} {st0 : List Value} {ls : Array Slot} (E : gE D cl tys wd A p s m args meth c cc nL own ret) (hS : va_S A s.heap H locs) (hl : lv_has ls nL lv)
    (hr : va_Run p l e R s m args below meth c H locs 0 0 0 0 (F0 m pc ls st0) st (gQ D cl wd lg (gA wd H.size) kd rg ρ1 a) (gA wd H.size))
    (kk : ∀ (r : Int) (σ1 : gMem), ρ1 = (r, σ1) → rg r → gK D cl wd lg A p l e R s m args below meth c nL QQ ρ σ1 (pc + 3) lv ((kd r).toList ++ st)) : W p l e R s m args below meth c H locs 0 0 (QQ ρ) (F0 m pc ls st0) := by
  have hAe : A = gA wd s.heap.size := E.2.2.2.2.2.2.2.2.2.2.1
  have hA : ∀ q, gA wd H.size q → A q := fun q h => by rw [hAe]; exact gA_mono hS.1 h
  intro T hT X
  obtain ⟨v, st₀, t, T', L, h0, X', hL, e1, e2, ⟨hv, hrg, hP1, hD1, hR1, hz, hk⟩, stp⟩ := hr T hT X
  rw [h0] at hz hk
  have hv : v = kd ρ1.1 := by injection hv
  subst hv
  obtain ⟨t2, a1, b1⟩ := kk ρ1.1 ρ1.2 rfl hrg T'.heap (locs ++ L) ls (by rw [e1]; exact hP1) (hD1.weaken (fun _ q _ h => hA q.1 h))
    ⟨Nat.le_trans hS.1 (by rw [e1]; exact hz), fun q h1 h2 => by rw [e1, hk q (Nat.lt_of_lt_of_le h1 hS.1) (fun z => h2 (hA q z))]; exact hS.2.1 q h1 h2, fun q hq => by
      rcases List.mem_append.mp hq with h | h
      · exact hS.2.2 q h
      · exact hA _ (hL q h)⟩ hR1 hl T' rfl X'
  exact ⟨t2, stp t2 a1, b1⟩
theorem g_pre {H : Heap} {U : State} (E : gE D cl tys wd A p s m args meth c cc nL own ret) (hP : va_P D cl (wd σ) H) (hD : va_D A (wd σ)) (hR : gMR lg σ) (hU : U.heap = H) (hW : s.WarmedH U.vm) : U.heap.size = H.size ∧ gPre D cl tys wd lg σ U := ⟨by rw [hU], by rw [hU]; exact hP, va_K.moved hW.alike E.2.2.2.2.2.1, hD.weaken (fun _ _ _ _ => trivial), hR, gNw_warm hW E.2.2.2.2.2.2.2.2.2.1⟩

theorem k_callV (E : gE D cl tys wd A p s m args meth c cc nL own ret) {y : MethodName} {b : ByteArray} {n fr lo index np : Nat} {rt : Option FieldType} {kd : Int → Option Value} {rg : Int → Prop} {ρ1 : gRes} {As : List Value} {a q0 ci N : Nat} {C : String} {T : u_T} {fs : List Value} (hC : gC l y b n rt fr lo D cl tys wd lg kd rg (.ref a :: As) σ ρ1) (hcode : Cond.code y b n rt ∈ gBIG) (hini : Cond.initialized y.cls ∈ gBIG) (hlink : Cond.methodLink own index y ∈ gBIG) (hinst : Cond.instanceMethod y ∈ gBIG) (hsel : Cond.selects C y y ∈ gBIG) (hy : y.cls ≠ "java/lang/invoke/MethodHandle" ∧ y.cls ≠ "java/lang/invoke/VarHandle" ∧ (parseMethodDescriptor y.desc).map (fun d => d.parameters.length) = some np) (ha : (wd σ)[q0]? = some (a, .inr (ci, fs))) (hc : cl[ci]? = some (C, T, N)) (hR1 : fr + 1 ≤ R.frames ∧ 8 + (n + 11) + lo ≤ R.locals) (hn : As.length = np) (hst : (st.map fun v => v.category).sum ≤ 8) (d : decode cc pc = .ok (.invokevirtual index, 3)) (kk : ∀ (r : Int) (σ1 : gMem), ρ1 = (r, σ1) → rg r → gK D cl wd lg A p l e R s m args below meth c nL QQ ρ σ1 (pc + 3) lv ((kd r).toList ++ st)) : gK D cl wd lg A p l e R s m args below meth c nL QQ ρ σ pc lv (As.reverse ++ .ref a :: st) := by
  intro H locs ls hP hD hS hR hl
  have hws : ∀ w ∈ (Cond.code y b n rt :: gBIG), w ∈ gBIG := fun w hw => (List.mem_cons.mp hw).elim (fun e => by rw [e]; exact hcode) id
  have hgood : GoodIn gBIG (Cond.code y b n rt :: gBIG) := fun w hw => ⟨hws w hw, good_of_word (List.mem_filter.mp (hws w hw)).2⟩
  have hs := fun w hw => E.2.2.2.2.1 w hw
  refine g_after E hS hl (va_runV (b := a) (As := As) (rest := st) ⟨E.1, E.2.1, E.2.2.1, E.2.2.2.1, E.2.2.2.2.1⟩ (hC H.size) (C := C) (n := np) (bytes := b) (maxL := n) (ret := rt) ⟨callB_of np E.2.2.2.2.1 hgood rfl rfl rfl (hs _ hini) (hs _ hlink) hy hR1, hs _ hinst, hs _ hsel⟩ ⟨fun a U g mk q => ⟨q.1, q.2.1, gPre_moved q.2.2⟩, va_recv E.2.2.2.2.2.1 hP hc ha, fun U hU hW => ⟨rfl, g_pre E hP hD hR hU hW⟩⟩ rfl hn hl.1 rfl (lv_room hst) d ⟨Nat.zero_le _, Nat.zero_le _⟩) kk
theorem k_callS (E : gE D cl tys wd A p s m args meth c cc nL own ret) {y : MethodName} {b : ByteArray} {n fr lo index np : Nat} {rt : Option FieldType} {kd : Int → Option Value} {rg : Int → Prop} {ρ1 : gRes} {As : List Value} (hC : gC l y b n rt fr lo D cl tys wd lg kd rg As σ ρ1) (hcode : Cond.code y b n rt ∈ gBIG) (hini : Cond.initialized y.cls ∈ gBIG) (hlink : Cond.methodLink own index y ∈ gBIG) (hstat : Cond.static y ∈ gBIG) (hy : y.cls ≠ "java/lang/invoke/MethodHandle" ∧ y.cls ≠ "java/lang/invoke/VarHandle" ∧ (parseMethodDescriptor y.desc).map (fun d => d.parameters.length) = some np) (hR1 : fr + 1 ≤ R.frames ∧ 8 + (n + 11) + lo ≤ R.locals) (hn : As.length = np) (hst : (st.map fun v => v.category).sum ≤ 8) (d : decode cc pc = .ok (.invokestatic index, 3)) (kk : ∀ (r : Int) (σ1 : gMem), ρ1 = (r, σ1) → rg r → gK D cl wd lg A p l e R s m args below meth c nL QQ ρ σ1 (pc + 3) lv ((kd r).toList ++ st)) : gK D cl wd lg A p l e R s m args below meth c nL QQ ρ σ pc lv (As.reverse ++ st) := by
  intro H locs ls hP hD hS hR hl
  have hws : ∀ w ∈ (Cond.code y b n rt :: gBIG), w ∈ gBIG := fun w hw => (List.mem_cons.mp hw).elim (fun e => by rw [e]; exact hcode) id
  have hgood : GoodIn gBIG (Cond.code y b n rt :: gBIG) := fun w hw => ⟨hws w hw, good_of_word (List.mem_filter.mp (hws w hw)).2⟩
  have hs := fun w hw => E.2.2.2.2.1 w hw
  refine g_after E hS hl (va_runS (As := As) (rest := st) ⟨E.1, E.2.1, E.2.2.1, E.2.2.2.1, E.2.2.2.2.1⟩ (hC H.size) (n := np) (bytes := b) (maxL := n) (ret := rt) ⟨callB_of np E.2.2.2.2.1 hgood rfl rfl rfl (hs _ hini) (hs _ hlink) hy hR1, hs _ hstat⟩ ⟨fun a U g mk q => ⟨q.1, q.2.1, gPre_moved q.2.2⟩, fun U hU hW => ⟨rfl, g_pre E hP hD hR hU hW⟩⟩ rfl hn hl.1 rfl (lv_room hst) d ⟨Nat.zero_le _, Nat.zero_le _⟩) kk
theorem k_callSN (E : gE D cl tys wd A p s m args meth c cc nL own ret) {y : MethodName} {b : ByteArray} {n fr lo index np : Nat} {rt : Option FieldType} {kd : Int → Option Value} {rg : Int → Prop} {ρ1 : gRes} {As : List Value} {host : String} (hC : gC l y b n rt fr lo D cl tys wd lg kd rg As σ ρ1) (hcode : Cond.code y b n rt ∈ gBIG) (hini : Cond.initialized y.cls ∈ gBIG) (hlink : Cond.methodLinkNest own index y host ∈ gNEST) (hstat : Cond.static y ∈ gBIG) (hy : y.cls ≠ "java/lang/invoke/MethodHandle" ∧ y.cls ≠ "java/lang/invoke/VarHandle" ∧ (parseMethodDescriptor y.desc).map (fun d => d.parameters.length) = some np) (hR1 : fr + 1 ≤ R.frames ∧ 8 + (n + 11) + lo ≤ R.locals) (hn : As.length = np) (hst : (st.map fun v => v.category).sum ≤ 8) (d : decode cc pc = .ok (.invokestatic index, 3)) (kk : ∀ (r : Int) (σ1 : gMem), ρ1 = (r, σ1) → rg r → gK D cl wd lg A p l e R s m args below meth c nL QQ ρ σ1 (pc + 3) lv ((kd r).toList ++ st)) : gK D cl wd lg A p l e R s m args below meth c nL QQ ρ σ pc lv (As.reverse ++ st) := by
  intro H locs ls hP hD hS hR hl
  have hws : ∀ w ∈ (Cond.code y b n rt :: gBIG), w ∈ gBIG := fun w hw => (List.mem_cons.mp hw).elim (fun e => by rw [e]; exact hcode) id
  have hgood : GoodIn gBIG (Cond.code y b n rt :: gBIG) := fun w hw => ⟨hws w hw, good_of_word (List.mem_filter.mp (hws w hw)).2⟩
  have hs := fun w hw => E.2.2.2.2.1 w hw
  refine g_after E hS hl (va_runSN (As := As) (rest := st) ⟨E.1, E.2.1, E.2.2.1, E.2.2.2.1, E.2.2.2.2.1⟩ (hC H.size) (n := np) (bytes := b) (maxL := n) (ret := rt) ⟨va_cnB np E.2.2.2.2.1 hgood rfl rfl rfl (E.2.2.2.2.2.2.2.2.2.1 _ hlink) (hs _ hini) hy hR1, hs _ hstat, trivial⟩ ⟨fun a U g mk q => ⟨q.1, q.2.1, gPre_moved q.2.2⟩, fun U hU hW => ⟨rfl, g_pre E hP hD hR hU hW⟩⟩ rfl hn hl.1 rfl (lv_room hst) d ⟨Nat.zero_le _, Nat.zero_le _⟩) kk
end GCALL
