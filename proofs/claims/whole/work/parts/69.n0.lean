section
/-! constructors: a judgement over worlds that grow; worlds of two parts (the law's two objects) -/
def nN : List Cond := [.methodLinkNest RX8 18 yX3_init RX8, .methodLinkNest RX4 32 yX6_init RX8, .methodLinkNest RX8 59 yX6_init RX8, .methodLinkNest RX8 70 yX5_init RX8]
theorem nN_tbl : ∀ w ∈ nN, w.onTables = true := by decide +kernel
def nX (U : State) : Prop := (∀ w ∈ gNEST, va_Nw w U) ∧ (∀ w ∈ nN, va_Nw w U) ∧ va_AO RX5 U ∧ mm_A U
theorem nX.calling {U : State} {g : JFrame} {mk : MethodId} {a : Array Value} (h : nX U) : nX (U.calling g mk a) := ⟨fun w hw => va_Nw.same (u := U) (gNEST_tbl w hw) rfl (h.1 w hw), fun w hw => va_Nw.same (u := U) (nN_tbl w hw) rfl (h.2.1 w hw), va_AO.moved (u := U) (U := U.calling g mk a) (Vm.Alike.refl U.vm) h.2.2.1, mm_A.moved (u := U) (U := U.calling g mk a) (Vm.Alike.refl U.vm) h.2.2.2⟩
theorem nX.warm {s U : State} (hW : s.WarmedH U.vm) (h : nX s) : nX U := by
  refine ⟨gNw_warm hW h.1, ?_, h.2.2.1.moved hW.alike, h.2.2.2.moved hW.alike⟩
  intro w hw
  have h1 := h.2.1 w hw
  simp only [nN, List.mem_cons, List.not_mem_nil, or_false] at hw
  rcases hw with rfl | rfl | rfl | rfl <;> exact va_Nw.warmM hW h1
def nE (D : va_G) (tys : List (ClassId × FieldType)) (A : Nat → Prop) (p : Program) (s : State) (m : MethodId) (args : Array Value) (meth : Method) (c : Code) (cc : ByteArray) (nL : Nat) (own : String) (rt0 : Option FieldType) (nm : String) : Prop :=
  p.tables.exec = Jvm.exec ∧ c.code = cc ∧ c.maxLocals = nL ∧ s.vm.findClass own = some m.cls ∧ (∀ w ∈ gBIG, w.before args s = true) ∧ va_K D vwCl tys s ∧ meth.locks = false ∧ (∀ q, s.heap.size ≤ q → A q) ∧ meth.sig.returnType = rt0 ∧ nX s ∧ meth.name = nm
def nK (D : va_G) (A : Nat → Prop) (p : Program) (l : Launch) (e : Env) (R : Room) (s : State) (m : MethodId) (args : Array Value) (below : List Frame) (meth : Method) (c : Code) (nL : Nat) (QQ : State → Prop) (ws : va_W) (ce sl pc : Nat) (lv : List (Nat × Value)) (st : List Value) : Prop :=
  ∀ (H : Heap) (locs : List Loc) (ls : Array Slot), va_P D vwCl ws H → va_D A ws → va_S A s.heap H locs → lv_has ls nL lv → W p l e R s m args below meth c H locs ce sl QQ (F0 m pc ls st)
/-- a constructor's contract: from the cells w0 to the cells w1 u, at addresses u of its own -/
def nC (l : Launch) (y : MethodName) (b : ByteArray) (n fr ce sl lo : Nat) (D : va_G) (tys : List (ClassId × FieldType)) (w0 : va_W) (av : List Value) (w1 : (Nat → Nat) → va_W) : Prop := ∀ sz, Met l y (.code y b n none :: gBIG) { frames := fr, cells := ce, slots := sl, locals := lo } (va_Pc av (fun U => U.heap.size = sz ∧ va_P D vwCl w0 U.heap ∧ va_K D vwCl tys U ∧ va_D (fun _ => True) w0 ∧ nX U)) (va_Qv (fun _ : Nat → Nat => True) (fun u t => va_P D vwCl (w1 u) t.heap ∧ va_D (va_A w0 sz) (w1 u)) (va_A w0 sz)) ce sl (va_A w0 sz)
def nQ (D : va_G) (below : List Frame) (args : Array Value) (s : State) (w0 : va_W) (w1 : (Nat → Nat) → va_W) (ce sl : Nat) : State → Prop := MQ below (va_Qv (fun _ : Nat → Nat => True) (fun u t => va_P D vwCl (w1 u) t.heap ∧ va_D (va_A w0 s.heap.size) (w1 u)) (va_A w0 s.heap.size)) args s ce sl (va_A w0 s.heap.size)
theorem nC_of {l : Launch} {y : MethodName} {b : ByteArray} {n fr ce sl lo : Nat} {D : va_G} {tys : List (ClassId × FieldType)} {w0 : va_W} {av : List Value} {w1 : (Nat → Nat) → va_W} (hy : plainName y.cls = true) (hlen : (lg_sl av).length ≤ n)
    (body : ∀ (A : Nat → Prop) (p : Program) (e : Env) (R : Room) (s : State) (m : MethodId) (args : Array Value) (below : List Frame) (meth : Method) (c : Code), R = { frames := fr, cells := ce, slots := sl, locals := lo } → A = va_A w0 s.heap.size → nE D tys A p s m args meth c b n y.cls none y.name → nK D A p l e R s m args below meth c n (nQ D below args s w0 w1 ce sl) w0 0 0 0 (lv_args 0 av) []) : nC l y b n fr ce sl lo D tys w0 av w1 := by
  intro sz
  refine Met.ofW (cc := b) (maxL := n) (ret := none) hy rfl ?_
  intro p e s m args below meth c s₁ B hml hv
  obtain ⟨rfl, hsz, hP, hK, hD0, hX⟩ := hv
  subst hsz
  have hts := atoms_spec (ws := .code y b n none :: gBIG) B.pre
  have hE : nE D tys (va_A w0 s.heap.size) p s m av.toArray meth c b n y.cls none y.name := ⟨B.exec, B.bytes, hml, findClass_of_methodNamed B.named, fun w hw => hts w (List.mem_cons_of_mem _ hw), hK, B.notSynchronized, fun q h => Or.inr h, B.returns, hX, (name_of_methodNamed B.named B.method).1⟩
  rw [lg_entry_eq]
  exact body _ p e _ s m av.toArray below meth c rfl rfl hE s.heap [] _ hP hD0.self va_S.rf (lv_entry av hlen)

theorem n_gA {wd : gMem → va_W} (hwd : ∀ σ, (wd σ).map (·.1) = (wd (fun _ _ => 0)).map (·.1)) {σ : gMem} {sz q : Nat} (h : gA wd sz q) : va_A (wd σ) sz q := by
  rcases h with ⟨k, e, hk⟩ | h
  · have h1 : ((wd (fun _ _ => 0)).map (·.1))[k]? = some q := by rw [List.getElem?_map, hk]; rfl
    rw [← hwd σ, List.getElem?_map, Option.map_eq_some_iff] at h1
    obtain ⟨x, h2, h3⟩ := h1
    exact Or.inl ⟨k, x.2, by rw [h2, ← h3]⟩
  · exact Or.inr h
theorem n_at {isC : List Nat} {ws w0 : va_W} (h : isC.map (fun i => ws[i]?) = w0.map some) : ∀ (k : Nat) (q : Nat × va_E), w0[k]? = some q → ws[isC.getD k 0]? = some q := by
  intro k q hq
  have h1 : (w0.map some)[k]? = some (some q) := by rw [List.getElem?_map, hq]; rfl
  rw [← h, List.getElem?_map, Option.map_eq_some_iff] at h1
  obtain ⟨i, h2, h3⟩ := h1
  have h4 : isC.getD k 0 = i := by rw [List.getD_eq_getElem?_getD, h2]; rfl
  rw [h4]
  exact h3
section NK
variable {D : va_G} {tys : List (ClassId × FieldType)} {A : Nat → Prop} {p : Program} {l : Launch} {e : Env} {R : Room} {s : State} {m : MethodId} {args : Array Value} {below : List Frame} {meth : Method} {c : Code} {nL : Nat} {QQ : State → Prop} {ws ws' : va_W} {ce sl pc : Nat} {lv lv' : List (Nat × Value)} {st : List Value} {cc : ByteArray} {own : String} {rt0 : Option FieldType} {nm : String}
theorem n_w (h : ws = ws') (k : nK D A p l e R s m args below meth c nL QQ ws' (ce) (sl) (pc) lv (st)) : nK D A p l e R s m args below meth c nL QQ ws (ce) (sl) (pc) lv (st) := h ▸ k
theorem n_lv (ks : List Nat) (hl : lv_pick lv ks = lv') (k : nK D A p l e R s m args below meth c nL QQ ws (ce) (sl) (pc) lv' (st)) : nK D A p l e R s m args below meth c nL QQ ws (ce) (sl) (pc) lv (st) := fun H locs ls hP hD hS h => k H locs ls hP hD hS (lv_sub h ks hl)
theorem n_st {st' : List Value} (h : st = st') (k : nK D A p l e R s m args below meth c nL QQ ws (ce) (sl) (pc) lv (st')) : nK D A p l e R s m args below meth c nL QQ ws (ce) (sl) (pc) lv (st) := h ▸ k
theorem n_wide {ce1 sl1 : Nat} (h1 : ce ≤ ce1) (h2 : sl ≤ sl1) (k : nK D A p l e R s m args below meth c nL QQ ws (ce1) (sl1) (pc) lv (st)) : nK D A p l e R s m args below meth c nL QQ ws (ce) (sl) (pc) lv (st) := fun H locs ls hP hD hS h => W.widen h1 h2 (k H locs ls hP hD hS h)
theorem n_iconst (E : nE D tys A p s m args meth c cc nL own rt0 nm) {n : Int} (d : decode cc pc = .ok (.iconst n, 1)) (k : nK D A p l e R s m args below meth c nL QQ ws (ce) (sl) (pc + 1) lv (gI n :: st)) : nK D A p l e R s m args below meth c nL QQ ws (ce) (sl) (pc) lv (st) := fun H locs ls hP hD hS hl => lv_iconst E.1 E.2.1 d rfl (k H locs ls hP hD hS hl)
theorem n_bipush (E : nE D tys A p s m args meth c cc nL own rt0 nm) {n : Int} (d : decode cc pc = .ok (.bipush n, 2)) (hn : (Int8.ofInt n).toInt32 = Int32.ofInt n) (k : nK D A p l e R s m args below meth c nL QQ ws (ce) (sl) (pc + 2) lv (gI n :: st)) : nK D A p l e R s m args below meth c nL QQ ws (ce) (sl) (pc) lv (st) := fun H locs ls hP hD hS hl => lv_bipush E.1 E.2.1 d hn (k H locs ls hP hD hS hl)
theorem n_sipush (E : nE D tys A p s m args meth c cc nL own rt0 nm) {n : Int} (d : decode cc pc = .ok (.sipush n, 3)) (hn : (Int16.ofInt n).toInt32 = Int32.ofInt n) (k : nK D A p l e R s m args below meth c nL QQ ws (ce) (sl) (pc + 3) lv (gI n :: st)) : nK D A p l e R s m args below meth c nL QQ ws (ce) (sl) (pc) lv (st) := fun H locs ls hP hD hS hl => lv_sipush E.1 E.2.1 d hn (k H locs ls hP hD hS hl)
theorem n_aload (E : nE D tys A p s m args meth c cc nL own rt0 nm) {i : Nat} {f : Fin 4} {z : Nat} (j : Nat) (d : decode cc pc = .ok (.aload_n f, 1)) (hf : (f : Nat) = i) (h : lv[j]? = some (i, .ref z)) (k : nK D A p l e R s m args below meth c nL QQ ws (ce) (sl) (pc + 1) lv (.ref z :: st)) : nK D A p l e R s m args below meth c nL QQ ws (ce) (sl) (pc) lv (st) := fun H locs ls hP hD hS hl => lv_aload_n E.1 E.2.1 d hf (lv_at hl j h) (k H locs ls hP hD hS hl)
theorem n_iload (E : nE D tys A p s m args meth c cc nL own rt0 nm) {i : Nat} {f : Fin 4} {z : Int} (j : Nat) (d : decode cc pc = .ok (.iload_n f, 1)) (hf : (f : Nat) = i) (h : lv[j]? = some (i, gI z)) (k : nK D A p l e R s m args below meth c nL QQ ws (ce) (sl) (pc + 1) lv (gI z :: st)) : nK D A p l e R s m args below meth c nL QQ ws (ce) (sl) (pc) lv (st) := fun H locs ls hP hD hS hl => lv_iload_n E.1 E.2.1 d hf (lv_at hl j h) (k H locs ls hP hD hS hl)
theorem n_istore (E : nE D tys A p s m args meth c cc nL own rt0 nm) {i : Nat} {f : Fin 4} {z : Int} (d : decode cc pc = .ok (.istore_n f, 1)) (hf : (f : Nat) = i) (hn : i < nL) (hlv : (i, (gI z : Value)) :: lv.filter (fun q => !(q.1 == i) && !(q.1 + 1 == i && q.2.category == 2)) = lv') (k : nK D A p l e R s m args below meth c nL QQ ws (ce) (sl) (pc + 1) lv' (st)) : nK D A p l e R s m args below meth c nL QQ ws (ce) (sl) (pc) lv (gI z :: st) := fun H locs ls hP hD hS hl => lv_istore_n E.1 E.2.1 d hf hl hn hlv (fun ls hl => k H locs ls hP hD hS hl)
theorem n_iinc (E : nE D tys A p s m args meth c cc nL own rt0 nm) {i : Nat} {n z : Int} (j : Nat) (d : decode cc pc = .ok (.iinc i n, 3)) (h : lv[j]? = some (i, gI z)) (hn : i < nL) (hlv : (i, (gI (z + n) : Value)) :: lv.filter (fun q => !(q.1 == i) && !(q.1 + 1 == i && q.2.category == 2)) = lv') (k : nK D A p l e R s m args below meth c nL QQ ws (ce) (sl) (pc + 3) lv' (st)) : nK D A p l e R s m args below meth c nL QQ ws (ce) (sl) (pc) lv (st) := fun H locs ls hP hD hS hl => lv_iinc E.1 E.2.1 d hl h (Int32.ofInt_add z n).symm hn hlv (fun ls hl => k H locs ls hP hD hS hl)
theorem n_dup (E : nE D tys A p s m args meth c cc nL own rt0 nm) {v : Value} (d : decode cc pc = .ok (.dup, 1)) (hv : v.category = 1) (k : nK D A p l e R s m args below meth c nL QQ ws (ce) (sl) (pc + 1) lv (v :: v :: st)) : nK D A p l e R s m args below meth c nL QQ ws (ce) (sl) (pc) lv (v :: st) := fun H locs ls hP hD hS hl => lv_dup E.1 E.2.1 d hv (k H locs ls hP hD hS hl)
theorem n_pop (E : nE D tys A p s m args meth c cc nL own rt0 nm) {v : Value} (d : decode cc pc = .ok (.pop, 1)) (hv : v.category = 1) (k : nK D A p l e R s m args below meth c nL QQ ws (ce) (sl) (pc + 1) lv (st)) : nK D A p l e R s m args below meth c nL QQ ws (ce) (sl) (pc) lv (v :: st) := fun H locs ls hP hD hS hl => lv_pop E.1 E.2.1 d hv (k H locs ls hP hD hS hl)
theorem n_goto (E : nE D tys A p s m args meth c cc nL own rt0 nm) {off : Int} {tgt : Nat} (d : decode cc pc = .ok (.goto off, 3)) (ht : (pc : Int) + off = (tgt : Int)) (k : nK D A p l e R s m args below meth c nL QQ ws (ce) (sl) (tgt) lv (st)) : nK D A p l e R s m args below meth c nL QQ ws (ce) (sl) (pc) lv (st) := fun H locs ls hP hD hS hl => lv_goto E.1 E.2.1 d ht (k H locs ls hP hD hS hl)
theorem n_ge_t (E : nE D tys A p s m args meth c cc nL own rt0 nm) {x y : Int} {off : Int} {tgt : Nat} (hx : in32 x) (hy : in32 y) (d : decode cc pc = .ok (.if_icmp .ge off, 3)) (ht : (pc : Int) + off = (tgt : Int)) (h : ¬ x < y) (k : nK D A p l e R s m args below meth c nL QQ ws (ce) (sl) (tgt) lv (st)) : nK D A p l e R s m args below meth c nL QQ ws (ce) (sl) (pc) lv (gI y :: gI x :: st) := fun H locs ls hP hD hS hl => lv_icmp_ge E.1 E.2.1 d ht (fun _ => k H locs ls hP hD hS hl) (fun q => absurd ((i_le hy hx).mpr (by omega)) q)
theorem n_ge_f (E : nE D tys A p s m args meth c cc nL own rt0 nm) {x y : Int} {off : Int} {tgt : Nat} (hx : in32 x) (hy : in32 y) (d : decode cc pc = .ok (.if_icmp .ge off, 3)) (ht : (pc : Int) + off = (tgt : Int)) (h : x < y) (k : nK D A p l e R s m args below meth c nL QQ ws (ce) (sl) (pc + 3) lv (st)) : nK D A p l e R s m args below meth c nL QQ ws (ce) (sl) (pc) lv (gI y :: gI x :: st) := fun H locs ls hP hD hS hl => lv_icmp_ge E.1 E.2.1 d ht (fun q => absurd q (fun q => absurd ((i_le hy hx).mp q) (by omega))) (fun _ => k H locs ls hP hD hS hl)
theorem n_gt_t (E : nE D tys A p s m args meth c cc nL own rt0 nm) {x y : Int} {off : Int} {tgt : Nat} (hx : in32 x) (hy : in32 y) (d : decode cc pc = .ok (.if_icmp .gt off, 3)) (ht : (pc : Int) + off = (tgt : Int)) (h : y < x) (k : nK D A p l e R s m args below meth c nL QQ ws (ce) (sl) (tgt) lv (st)) : nK D A p l e R s m args below meth c nL QQ ws (ce) (sl) (pc) lv (gI y :: gI x :: st) := fun H locs ls hP hD hS hl => lv_icmp_gt E.1 E.2.1 d ht (fun _ => k H locs ls hP hD hS hl) (fun q => absurd ((i_lt hy hx).mpr h) q)
theorem n_gt_f (E : nE D tys A p s m args meth c cc nL own rt0 nm) {x y : Int} {off : Int} {tgt : Nat} (hx : in32 x) (hy : in32 y) (d : decode cc pc = .ok (.if_icmp .gt off, 3)) (ht : (pc : Int) + off = (tgt : Int)) (h : ¬ y < x) (k : nK D A p l e R s m args below meth c nL QQ ws (ce) (sl) (pc + 3) lv (st)) : nK D A p l e R s m args below meth c nL QQ ws (ce) (sl) (pc) lv (gI y :: gI x :: st) := fun H locs ls hP hD hS hl => lv_icmp_gt E.1 E.2.1 d ht (fun q => absurd q (fun q => h ((i_lt hy hx).mp q))) (fun _ => k H locs ls hP hD hS hl)
theorem n_newI (E : nE D tys A p s m args meth c cc nL own rt0 nm) {n : Int} {N : Nat} {cI : ClassId} (t0 : Nat) (ht : tys[t0]? = some (cI, .int)) (harr : Cond.arrayClass .int ∈ gBIG) (h0 : 0 ≤ n) (h1 : n.toNat = N) (hN : N ≤ 10000) (hce : ce + 1 ≤ R.cells) (hsl : sl + N ≤ R.slots) (d : decode cc pc = .ok (.newarray .int, 2)) (k : ∀ q : Nat, nK D A p l e R s m args below meth c nL QQ (ws ++ [(q, .inl (cI, N, .inl (fun _ => 0)))]) (ce + 1) (sl + N) (pc + 2) lv (.ref q :: st)) : nK D A p l e R s m args below meth c nL QQ ws (ce) (sl) (pc) lv (gI n :: st) := by
  intro H locs ls hP hD hS hl
  have hc := i_cl h0 (show n < 2147483648 by omega)
  refine va_newa (atype := .int) (ty := .int) (N' := N) (a0 := (N, .inl (fun _ => 0))) E.1 E.2.1 (E.2.2.2.2.1 _ harr) rfl E.2.2.2.2.2.1 hP hD hS E.2.2.2.2.2.2.2.1 (fun cA => vp_cell_i _ _ _) (fun q => ?_) (by omega) (by show N * 4 ≤ _; omega) hce hsl d (fun q cA H1 hK1 hP1 hD1 hS1 => ?_)
  · have q2 := (i_lt (x := n) (y := 0) (by omega) (by omega)).mp q
    omega
  · have e1 : s.vm.findClass ("[" ++ FieldType.int.toString) = some cA := (hK1.2 tys.length (cA, .int) (by rw [List.getElem?_append_right (Nat.le_refl _), Nat.sub_self]; rfl)).2
    have e2 : s.vm.findClass ("[" ++ FieldType.int.toString) = some cI := (E.2.2.2.2.2.1.2 t0 (cI, .int) ht).2
    have e3 : cA = cI := Option.some.inj (e1.symm.trans e2)
    subst e3
    exact k q H1 locs ls hP1 hD1 hS1 hl
theorem n_newJ (E : nE D tys A p s m args meth c cc nL own rt0 nm) {n : Int} {N : Nat} {cJ : ClassId} (t0 : Nat) (ht : tys[t0]? = some (cJ, .long)) (harr : Cond.arrayClass .long ∈ gBIG) (h0 : 0 ≤ n) (h1 : n.toNat = N) (hN : N ≤ 10000) (hce : ce + 1 ≤ R.cells) (hsl : sl + N ≤ R.slots) (d : decode cc pc = .ok (.newarray .long, 2)) (k : ∀ q : Nat, nK D A p l e R s m args below meth c nL QQ (ws ++ [(q, .inl (cJ, N, .inr (.inl (fun _ => 0))))]) (ce + 1) (sl + N) (pc + 2) lv (.ref q :: st)) : nK D A p l e R s m args below meth c nL QQ ws (ce) (sl) (pc) lv (gI n :: st) := by
  intro H locs ls hP hD hS hl
  have hc := i_cl h0 (show n < 2147483648 by omega)
  refine va_newa (atype := .long) (ty := .long) (N' := N) (a0 := (N, .inr (.inl (fun _ => 0)))) E.1 E.2.1 (E.2.2.2.2.1 _ harr) rfl E.2.2.2.2.2.1 hP hD hS E.2.2.2.2.2.2.2.1 (fun cA => vp_cell_l _ _ _) (fun q => ?_) (by omega) (by show N * 8 ≤ _; omega) hce hsl d (fun q cA H1 hK1 hP1 hD1 hS1 => ?_)
  · have q2 := (i_lt (x := n) (y := 0) (by omega) (by omega)).mp q
    omega
  · have e1 : s.vm.findClass ("[" ++ FieldType.long.toString) = some cA := (hK1.2 tys.length (cA, .long) (by rw [List.getElem?_append_right (Nat.le_refl _), Nat.sub_self]; rfl)).2
    have e2 : s.vm.findClass ("[" ++ FieldType.long.toString) = some cJ := (E.2.2.2.2.2.1.2 t0 (cJ, .long) ht).2
    have e3 : cA = cJ := Option.some.inj (e1.symm.trans e2)
    subst e3
    exact k q H1 locs ls hP1 hD1 hS1 hl
theorem n_newq (E : nE D tys A p s m args meth c cc nL own rt0 nm) {index : Nat} {C : String} {n : Int} {N : Nat} {cS : ClassId} (t0 : Nat) (ht : tys[t0]? = some (cS, .object C)) (hlink : Cond.classLink own index C ∈ gBIG) (hao : va_AO C s) (h0 : 0 ≤ n) (h1 : n.toNat = N) (hN : N ≤ 10000) (hce : ce + 1 ≤ R.cells) (hsl : sl + N ≤ R.slots) (d : decode cc pc = .ok (.anewarray index, 3)) (k : ∀ q : Nat, nK D A p l e R s m args below meth c nL QQ (ws ++ [(q, .inl (cS, N, .inr (.inr (.inr (.inr (fun _ => none))))))]) (ce + 1) (sl + N) (pc + 3) lv (.ref q :: st)) : nK D A p l e R s m args below meth c nL QQ ws (ce) (sl) (pc) lv (gI n :: st) := by
  intro H locs ls hP hD hS hl
  have hc := i_cl h0 (show n < 2147483648 by omega)
  refine va_newq (N' := N) E.1 E.2.1 E.2.2.2.1 (E.2.2.2.2.1 _ hlink) hao E.2.2.2.2.2.1 hP hD hS E.2.2.2.2.2.2.2.1 (fun q => ?_) (by omega) (by omega) hce hsl d (fun q cA H1 hK1 hP1 hD1 hS1 => ?_)
  · have q2 := (i_lt (x := n) (y := 0) (by omega) (by omega)).mp q
    omega
  · obtain ⟨kA, comp, -, -, -, e1⟩ := (hK1.2 tys.length (cA, .object C) (by rw [List.getElem?_append_right (Nat.le_refl _), Nat.sub_self]; rfl)).2
    obtain ⟨kB, comp2, -, -, -, e2⟩ := (E.2.2.2.2.2.1.2 t0 (cS, .object C) ht).2
    have e3 : cA = cS := Option.some.inj (e1.symm.trans e2)
    subst e3
    exact k q H1 locs ls hP1 hD1 hS1 hl
theorem n_multi (E : nE D tys A p s m args meth c cc nL own rt0 nm) {index : Nat} {n n2 : Int} {N M : Nat} {cI cT : ClassId} (t0 t1 : Nat) (ht : tys[t0]? = some (cI, .int)) (ht1 : tys[t1]? = some (cT, .array .int)) (hlink : Cond.classLink own index ("[" ++ (FieldType.array .int).toString) ∈ gBIG) (h0 : 0 ≤ n) (h1 : n.toNat = N) (hN : N ≤ 10000) (h2 : 0 ≤ n2) (h3 : n2.toNat = M) (hM : M ≤ 10000) (hce : ce + (1 + N) ≤ R.cells) (hsl : sl + (N + N * M) ≤ R.slots) (d : decode cc pc = .ok (.multianewarray index 2, 4)) (k : ∀ q : Nat, nK D A p l e R s m args below meth c nL QQ (ws ++ mm_w q cT cI N M) (ce + (1 + N)) (sl + (N + N * M)) (pc + 4) lv (.ref q :: st)) : nK D A p l e R s m args below meth c nL QQ ws (ce) (sl) (pc) lv (gI n2 :: gI n :: st) := by
  intro H locs ls hP hD hS hl
  have hc := i_cl h0 (show n < 2147483648 by omega)
  have hc2 := i_cl h2 (show n2 < 2147483648 by omega)
  refine va_multi (N := N) (M := M) E.1 E.2.1 E.2.2.2.1 (E.2.2.2.2.1 _ hlink) E.2.2.2.2.2.2.2.2.2.1.2.2.2 hP hD hS E.2.2.2.2.2.2.2.1 (fun q => ?_) (by omega) (fun q => ?_) (by omega) (by omega) (by omega) hce hsl d (fun q cT2 cI2 H1 locs1 e1 e2 hP1 hD1 hS1 => ?_)
  · have q2 := (i_lt (x := n) (y := 0) (by omega) (by omega)).mp q
    omega
  · have q2 := (i_lt (x := n2) (y := 0) (by omega) (by omega)).mp q
    omega
  · have e3 : s.vm.findClass ("[" ++ FieldType.int.toString) = some cI := (E.2.2.2.2.2.1.2 t0 (cI, .int) ht).2
    have e4 : s.vm.findClass ("[" ++ (FieldType.array .int).toString) = some cT := (E.2.2.2.2.2.1.2 t1 (cT, .array .int) ht1).2
    have e5 : cI2 = cI := Option.some.inj (e2.symm.trans e3)
    have e6 : cT2 = cT := Option.some.inj (e1.symm.trans e4)
    subst e5; subst e6
    exact k q H1 locs1 ls hP1 hD1 hS1 hl
theorem n_new (E : nE D tys A p s m args meth c cc nL own rt0 nm) {index ci N : Nat} {C : String} {T : u_T} {fs : List Value} (hin : ∀ w ∈ u_ws C T N, w ∈ gBIG) (ty : Nat → FieldType) (hty : ∀ k, k < N → parseFieldDescriptor (T k).2.2.1 = some (ty k)) (hlink : Cond.classLink own index C ∈ gBIG) (hinst : Cond.instantiable C N ∈ gBIG) (hini : Cond.initialized C ∈ gBIG) (hc : vwCl[ci]? = some (C, T, N)) (hfs : ∀ j, j < N → defaultValue (ty j) = vp_V fs j) (hce : ce + 1 ≤ R.cells) (hsl : sl + N ≤ R.slots) (d : decode cc pc = .ok (.new index, 3)) (k : ∀ q : Nat, nK D A p l e R s m args below meth c nL QQ (ws ++ [(q, .inr (ci, fs))]) (ce + 1) (sl + N) (pc + 3) lv (.ref q :: st)) : nK D A p l e R s m args below meth c nL QQ ws (ce) (sl) (pc) lv (st) :=
  fun H locs ls hP hD hS hl => va_new E.1 E.2.1 E.2.2.2.2.1 hin ty hty E.2.2.2.1 (E.2.2.2.2.1 _ hlink) (E.2.2.2.2.1 _ hinst) (E.2.2.2.2.1 _ hini) E.2.2.2.2.2.1 hP hD hS E.2.2.2.2.2.2.2.1 hc hfs hce hsl d (fun q H1 hP1 hD1 hS1 => k q H1 locs ls hP1 hD1 hS1 hl)
theorem n_putF (E : nE D tys A p s m args meth c cc nL own rt0 nm) {a q0 ci N index f : Nat} {ref C : String} {T : u_T} {fs : List Value} {ty : FieldType} {v : Value} (ty0 : Nat → FieldType) (hty : ∀ k, k < N → parseFieldDescriptor (T k).2.2.1 = some (ty0 k)) (hnm : ∀ a, a < N → ∀ b, b < N → a ≠ b → (T a).2.1 ≠ (T b).2.1) (hin : ∀ w ∈ u_ws C T N, w ∈ gBIG) (ha : ws[q0]? = some (a, .inr (ci, fs))) (hc : vwCl[ci]? = some (C, T, N)) (hf : f < N) (hlink : Cond.fieldLink own index ref (T f).2.1 (T f).2.2.1 ∈ gBIG) (hsame : (T f).1 = ref) (hfin : (T f).2.2.2 = true) (hnm2 : nm = "<init>") (hdecl : (T f).1 = own) (hd : parseFieldDescriptor (T f).2.2.1 = some ty) (hnar : narrow ty v = v) (hfit : fits ty v = true) (hl2 : f < fs.length) (hw : ws.set q0 (a, .inr (ci, fs.set f v)) = ws') (d : decode cc pc = .ok (.putfield index, 3)) (k : nK D A p l e R s m args below meth c nL QQ ws' (ce) (sl) (pc + 3) lv (st)) : nK D A p l e R s m args below meth c nL QQ ws (ce) (sl) (pc) lv (v :: .ref a :: st) := by
  intro H locs ls hP hD hS hl
  refine va_putF E.1 E.2.1 E.2.2.2.2.1 hin ty0 hty hnm E.2.2.2.1 E.2.2.2.2.2.1 hP hD hS q0 ha hc f hf (E.2.2.2.2.1 _ hlink) (fun x hx => by rw [← hsame]; exact hx) hfin (E.2.2.2.2.2.2.2.2.2.2.trans hnm2) hdecl hd hnar hfit hl2 d (fun H1 locs1 hP1 hD1 hS1 => ?_)
  rw [hw] at hP1 hD1
  exact k H1 locs1 ls hP1 hD1 hS1 hl
theorem n_put (E : nE D tys A p s m args meth c cc nL own rt0 nm) {a q0 ci N index f : Nat} {ref C : String} {T : u_T} {fs : List Value} {ty : FieldType} {v : Value} (ty0 : Nat → FieldType) (hty : ∀ k, k < N → parseFieldDescriptor (T k).2.2.1 = some (ty0 k)) (hnm : ∀ a, a < N → ∀ b, b < N → a ≠ b → (T a).2.1 ≠ (T b).2.1) (hin : ∀ w ∈ u_ws C T N, w ∈ gBIG) (ha : ws[q0]? = some (a, .inr (ci, fs))) (hc : vwCl[ci]? = some (C, T, N)) (hf : f < N) (hlink : Cond.fieldLink own index ref (T f).2.1 (T f).2.2.1 ∈ gBIG) (hsame : (T f).1 = ref) (hfin : (T f).2.2.2 = false) (hd : parseFieldDescriptor (T f).2.2.1 = some ty) (hnar : narrow ty v = v) (hfit : fits ty v = true) (hl2 : f < fs.length) (hw : ws.set q0 (a, .inr (ci, fs.set f v)) = ws') (d : decode cc pc = .ok (.putfield index, 3)) (k : nK D A p l e R s m args below meth c nL QQ ws' (ce) (sl) (pc + 3) lv (st)) : nK D A p l e R s m args below meth c nL QQ ws (ce) (sl) (pc) lv (v :: .ref a :: st) := by
  intro H locs ls hP hD hS hl
  refine va_put E.1 E.2.1 E.2.2.2.2.1 hin ty0 hty hnm E.2.2.2.1 E.2.2.2.2.2.1 hP hD hS q0 ha hc f hf (E.2.2.2.2.1 _ hlink) (fun x hx => by rw [← hsame]; exact hx) hfin hd hnar hfit hl2 d (fun H1 locs1 hP1 hD1 hS1 => ?_)
  rw [hw] at hP1 hD1
  exact k H1 locs1 ls hP1 hD1 hS1 hl
theorem n_get (E : nE D tys A p s m args meth c cc nL own rt0 nm) {a q0 ci N index f : Nat} {ref C : String} {T : u_T} {fs : List Value} {v : Value} (hin : ∀ w ∈ u_ws C T N, w ∈ gBIG) (ha : ws[q0]? = some (a, .inr (ci, fs))) (hc : vwCl[ci]? = some (C, T, N)) (hf : f < N) (hlink : Cond.fieldLink own index ref (T f).2.1 (T f).2.2.1 ∈ gBIG) (hsame : (T f).1 = ref) (hv : fs[f]? = some v) (d : decode cc pc = .ok (.getfield index, 3)) (k : nK D A p l e R s m args below meth c nL QQ ws (ce) (sl) (pc + 3) lv (v :: st)) : nK D A p l e R s m args below meth c nL QQ ws (ce) (sl) (pc) lv (.ref a :: st) :=
  fun H locs ls hP hD hS hl => va_get E.1 E.2.1 E.2.2.2.2.1 hin E.2.2.2.1 E.2.2.2.2.2.1 hP q0 ha hc f hf (E.2.2.2.2.1 _ hlink) (fun x hx => by rw [← hsame]; exact hx) hv d (k H locs ls hP hD hS hl)
theorem n_iast (E : nE D tys A p s m args meth c cc nL own rt0 nm) {a q0 n : Nat} {cI : ClassId} {f f' : Nat → Int32} {i x : Int} (t0 : Nat) (ha : ws[q0]? = some (a, .inl (cI, n, .inl f))) (ht : tys[t0]? = some (cI, .int)) (h0 : 0 ≤ i) (h1 : i < n) (hn : n < 2147483648) (hf : upd f i.toNat (Int32.ofInt x) = f') (hw : ws.set q0 (a, .inl (cI, n, .inl f')) = ws') (d : decode cc pc = .ok (.iastore, 1)) (k : nK D A p l e R s m args below meth c nL QQ ws' (ce) (sl) (pc + 1) lv (st)) : nK D A p l e R s m args below meth c nL QQ ws (ce) (sl) (pc) lv (gI x :: gI i :: .ref a :: st) := by
  intro H locs ls hP hD hS hl
  have e9 : (Int32.ofInt i).toNatClampNeg = i.toNat := by have := i_cl h0 (by omega); omega
  refine va_iast E.1 E.2.1 E.2.2.2.2.2.1 hP hD hS q0 t0 ha ht (i_in h0 h1 hn) d (fun H1 locs1 hP1 hD1 hS1 => ?_)
  rw [e9, hf, hw] at hP1 hD1
  exact k H1 locs1 ls hP1 hD1 hS1 hl
theorem n_iald (E : nE D tys A p s m args meth c cc nL own rt0 nm) {a q0 n : Nat} {cI : ClassId} {f : Nat → Int32} {i x : Int} (t0 : Nat) (ha : ws[q0]? = some (a, .inl (cI, n, .inl f))) (ht : tys[t0]? = some (cI, .int)) (h0 : 0 ≤ i) (h1 : i < n) (hn : n < 2147483648) (hf : f i.toNat = Int32.ofInt x) (d : decode cc pc = .ok (.iaload, 1)) (k : nK D A p l e R s m args below meth c nL QQ ws (ce) (sl) (pc + 1) lv (gI x :: st)) : nK D A p l e R s m args below meth c nL QQ ws (ce) (sl) (pc) lv (gI i :: .ref a :: st) := by
  intro H locs ls hP hD hS hl
  have e9 : (Int32.ofInt i).toNatClampNeg = i.toNat := by have := i_cl h0 (by omega); omega
  refine va_iald E.1 E.2.1 E.2.2.2.2.2.1 hP q0 t0 ha ht (i_in h0 h1 hn) d ?_
  rw [e9, hf]
  exact k H locs ls hP hD hS hl
theorem n_aald (E : nE D tys A p s m args meth c cc nL own rt0 nm) {a q0 n : Nat} {cS : ClassId} {ty : FieldType} {f : Nat → Option Nat} {i : Int} {v : Nat} (t0 : Nat) (ha : ws[q0]? = some (a, .inl (cS, n, .inr (.inr (.inr (.inr f)))))) (ht : tys[t0]? = some (cS, ty)) (hr : ty.isReference = true) (h0 : 0 ≤ i) (h1 : i < n) (hn : n < 2147483648) (hf : f i.toNat = some v) (d : decode cc pc = .ok (.aaload, 1)) (k : nK D A p l e R s m args below meth c nL QQ ws (ce) (sl) (pc + 1) lv (.ref v :: st)) : nK D A p l e R s m args below meth c nL QQ ws (ce) (sl) (pc) lv (gI i :: .ref a :: st) := by
  intro H locs ls hP hD hS hl
  have e9 : (Int32.ofInt i).toNatClampNeg = i.toNat := by have := i_cl h0 (by omega); omega
  have hin := i_in h0 h1 hn
  have hlt : i.toNat < n := by omega
  exact W.aald (v := .ref v) (ty := ty) E.1 E.2.1 (hP q0 _ ha) ((E.2.2.2.2.2.1.2 t0 _ ht).1 n (fun j => va_rf (f j))) hr (fun q => by cases q) (by show ¬ (Int32.ofInt i < 0 ∨ (arrV _ _ _).slots.size ≤ _); rw [arrV_size]; exact hin) (by show (arrV _ _ _).slots[_]? = _; rw [e9, arrV_read _ _ hlt]; show some (va_rf (f i.toNat)) = _; rw [hf]; rfl) rfl rfl d (k H locs ls hP hD hS hl)
theorem n_aast (E : nE D tys A p s m args meth c cc nL own rt0 nm) {a q0 qk ci n v : Nat} {cS : ClassId} {r : vw_C} {f f' : Nat → Option Nat} {vs : List Value} {i : Int} (t0 : Nat) (ha : ws[q0]? = some (a, .inl (cS, n, .inr (.inr (.inr (.inr f)))))) (ht : tys[t0]? = some (cS, .object r.1)) (hv : ws[qk]? = some (v, .inr (ci, vs))) (hc : vwCl[ci]? = some r) (h0 : 0 ≤ i) (h1 : i < n) (hn : n < 2147483648) (hf : va_up f i.toNat (some v) = f') (hw : ws.set q0 (a, .inl (cS, n, .inr (.inr (.inr (.inr f'))))) = ws') (d : decode cc pc = .ok (.aastore, 1)) (k : nK D A p l e R s m args below meth c nL QQ ws' (ce) (sl) (pc + 1) lv (st)) : nK D A p l e R s m args below meth c nL QQ ws (ce) (sl) (pc) lv (.ref v :: gI i :: .ref a :: st) := by
  intro H locs ls hP hD hS hl
  have e9 : (Int32.ofInt i).toNatClampNeg = i.toNat := by have := i_cl h0 (by omega); omega
  refine va_astq E.1 E.2.1 E.2.2.2.2.2.1 hP hD hS q0 t0 qk ci ha ht hv hc (i_in h0 h1 hn) d (fun H1 locs1 hP1 hD1 hS1 => ?_)
  rw [e9, hf, hw] at hP1 hD1
  exact k H1 locs1 ls hP1 hD1 hS1 hl
theorem n_obj (E : nE D tys A p s m args meth c cc nL own rt0 nm) {idx a : Nat} (hlink : Cond.methodLink own idx Lib.objectInit ∈ gBIG) (hinst : Cond.instanceMethod Lib.objectInit ∈ gBIG) (hcode : Cond.code Lib.objectInit ⟨#[0xb1]⟩ 1 none ∈ gBIG) (hR : 1 ≤ R.frames ∧ 20 ≤ R.locals) (hst : (st.map fun v => v.category).sum ≤ 8) (d : decode cc pc = .ok (.invokespecial idx, 3)) (k : nK D A p l e R s m args below meth c nL QQ ws (ce) (sl) (pc + 3) lv (st)) : nK D A p l e R s m args below meth c nL QQ ws (ce) (sl) (pc) lv (.ref a :: st) := by
  intro H locs ls hP hD hS hl
  refine W.objInit E.1 E.2.1 E.2.2.2.1 (E.2.2.2.2.1 _ hlink) (E.2.2.2.2.1 _ hinst) (E.2.2.2.2.1 _ hcode) rfl (by rw [E.2.2.1]; exact hl.1) rfl d hR.1 (by show 2 * 0 + _ + 12 ≤ _; omega) ?_
  exact k H locs ls hP hD hS hl
theorem n_good {y : MethodName} {b : ByteArray} {n : Nat} {ret : Option FieldType} (hcode : Cond.code y b n ret ∈ gBIG) : GoodIn gBIG (Cond.code y b n ret :: gBIG) := by
  intro w hw
  have h1 : w ∈ gBIG := (List.mem_cons.mp hw).elim (fun e => by rw [e]; exact hcode) id
  exact ⟨h1, good_of_word (List.mem_filter.mp h1).2⟩
theorem n_call (E : nE D tys A p s m args meth c cc nL own rt0 nm) {w0 wr : va_W} {w1 : (Nat → Nat) → va_W} {y : MethodName} {b : ByteArray} {n fr ce1 sl1 lo index np a : Nat} {As : List Value} (hC : nC l y b n fr ce1 sl1 lo D tys w0 (.ref a :: As) w1) (hcode : Cond.code y b n none ∈ gBIG) (hini : Cond.initialized y.cls ∈ gBIG) (hlink : Cond.methodLink own index y ∈ gBIG) (hinst : Cond.instanceMethod y ∈ gBIG) (hy1 : y.name = "<init>") (hy : y.cls ≠ "java/lang/invoke/MethodHandle" ∧ y.cls ≠ "java/lang/invoke/VarHandle" ∧ (parseMethodDescriptor y.desc).map (fun d => d.parameters.length) = some np) (hR1 : fr + 1 ≤ R.frames ∧ 8 + (n + 11) + lo ≤ R.locals) (hce : ce + ce1 ≤ R.cells ∧ sl + sl1 ≤ R.slots) (hn : As.length = np) (hst : (st.map fun v => v.category).sum ≤ 8) (isC isR : List Nat) (hCc : isC.map (fun i => ws[i]?) = w0.map some) (hRr : isR.map (fun i => ws[i]?) = wr.map some) (hnd : va_nd isR = true) (hdis : ∀ i ∈ isR, i ∉ isC) (d : decode cc pc = .ok (.invokespecial index, 3)) (hndC : va_nd isC = true) (k : ∀ u : Nat → Nat, nK D A p l e R s m args below meth c nL QQ (wr ++ w1 u) (ce + ce1) (sl + sl1) (pc + 3) lv (st)) : nK D A p l e R s m args below meth c nL QQ ws (ce) (sl) (pc) lv (As.reverse ++ .ref a :: st) := by
  intro H locs ls hP hD hS hl
  have hs := fun w hw => E.2.2.2.2.1 w hw
  have hPc : va_P D vwCl w0 H := hP.by (fun k => isC.getD k 0) (n_at hCc)
  have hF := va_free hD hS E.2.2.2.2.2.2.2.1 isC hCc
  have hDc : va_D (fun _ => True) w0 := (hD.sub isC hndC hCc).weaken (fun _ _ _ _ => trivial)
  refine va_callv (va_runI (b := a) (As := As) (rest := st) ⟨E.1, E.2.1, E.2.2.1, E.2.2.2.1, E.2.2.2.2.1⟩ (hC H.size) (n := np) (bytes := b) (maxL := n) ⟨callB_of np E.2.2.2.2.1 (n_good hcode) rfl rfl rfl (hs _ hini) (hs _ hlink) hy hR1, hy1, hs _ hinst⟩ ⟨fun a U g mk q => ⟨q.1, q.2.1, q.2.2.1, va_K.moved (u := U) (U := U.calling g mk a) (Vm.Alike.refl U.vm) q.2.2.2.1, q.2.2.2.2.1, q.2.2.2.2.2.calling⟩, fun U hU hW => ⟨rfl, by rw [hU], by rw [hU]; exact hPc, va_K.moved hW.alike E.2.2.2.2.2.1, hDc, E.2.2.2.2.2.2.2.2.2.1.warm hW⟩⟩ rfl hn hl.1 rfl (lv_room hst) d hce) hS (fun q _ h => hF q h) hF (fun u t H1 locs1 ht hvm _ hB hz hk hS1 => ?_)
  obtain ⟨hP1, hD1⟩ := hB
  rw [ht] at hP1
  obtain ⟨hP2, hD2⟩ := va_join hP hD isC isR hCc hRr hnd hdis hk hF hP1 hD1
  exact k u H1 locs1 ls hP2 hD2 hS1 hl
theorem n_callN (E : nE D tys A p s m args meth c cc nL own rt0 nm) {host : String} {w0 wr : va_W} {w1 : (Nat → Nat) → va_W} {y : MethodName} {b : ByteArray} {n fr ce1 sl1 lo index np a : Nat} {As : List Value} (hC : nC l y b n fr ce1 sl1 lo D tys w0 (.ref a :: As) w1) (hcode : Cond.code y b n none ∈ gBIG) (hini : Cond.initialized y.cls ∈ gBIG) (hlink : Cond.methodLinkNest own index y host ∈ nN) (hinst : Cond.instanceMethod y ∈ gBIG) (hy1 : y.name = "<init>") (hy : y.cls ≠ "java/lang/invoke/MethodHandle" ∧ y.cls ≠ "java/lang/invoke/VarHandle" ∧ (parseMethodDescriptor y.desc).map (fun d => d.parameters.length) = some np) (hR1 : fr + 1 ≤ R.frames ∧ 8 + (n + 11) + lo ≤ R.locals) (hce : ce + ce1 ≤ R.cells ∧ sl + sl1 ≤ R.slots) (hn : As.length = np) (hst : (st.map fun v => v.category).sum ≤ 8) (isC isR : List Nat) (hCc : isC.map (fun i => ws[i]?) = w0.map some) (hRr : isR.map (fun i => ws[i]?) = wr.map some) (hnd : va_nd isR = true) (hdis : ∀ i ∈ isR, i ∉ isC) (d : decode cc pc = .ok (.invokespecial index, 3)) (hndC : va_nd isC = true) (k : ∀ u : Nat → Nat, nK D A p l e R s m args below meth c nL QQ (wr ++ w1 u) (ce + ce1) (sl + sl1) (pc + 3) lv (st)) : nK D A p l e R s m args below meth c nL QQ ws (ce) (sl) (pc) lv (As.reverse ++ .ref a :: st) := by
  intro H locs ls hP hD hS hl
  have hs := fun w hw => E.2.2.2.2.1 w hw
  have hPc : va_P D vwCl w0 H := hP.by (fun k => isC.getD k 0) (n_at hCc)
  have hF := va_free hD hS E.2.2.2.2.2.2.2.1 isC hCc
  have hDc : va_D (fun _ => True) w0 := (hD.sub isC hndC hCc).weaken (fun _ _ _ _ => trivial)
  refine va_callv (va_runIN (b := a) (As := As) (rest := st) ⟨E.1, E.2.1, E.2.2.1, E.2.2.2.1, E.2.2.2.2.1⟩ (hC H.size) (n := np) (bytes := b) (maxL := n) ⟨va_cnB np E.2.2.2.2.1 (n_good hcode) rfl rfl rfl (E.2.2.2.2.2.2.2.2.2.1.2.1 _ hlink) (hs _ hini) hy hR1, hy1, hs _ hinst⟩ ⟨fun a U g mk q => ⟨q.1, q.2.1, q.2.2.1, va_K.moved (u := U) (U := U.calling g mk a) (Vm.Alike.refl U.vm) q.2.2.2.1, q.2.2.2.2.1, q.2.2.2.2.2.calling⟩, fun U hU hW => ⟨rfl, by rw [hU], by rw [hU]; exact hPc, va_K.moved hW.alike E.2.2.2.2.2.1, hDc, E.2.2.2.2.2.2.2.2.2.1.warm hW⟩⟩ rfl hn hl.1 rfl (lv_room hst) d hce) hS (fun q _ h => hF q h) hF (fun u t H1 locs1 ht hvm _ hB hz hk hS1 => ?_)
  obtain ⟨hP1, hD1⟩ := hB
  rw [ht] at hP1
  obtain ⟨hP2, hD2⟩ := va_join hP hD isC isR hCc hRr hnd hdis hk hF hP1 hD1
  exact k u H1 locs1 ls hP2 hD2 hS1 hl
theorem n_refs {a q0 n : Nat} {cS : ClassId} {f f' : Nat → Option Nat} (ha : ws[q0]? = some (a, .inl (cS, n, .inr (.inr (.inr (.inr f)))))) (hf : ∀ j, j < n → f j = f' j) (hw : ws.set q0 (a, .inl (cS, n, .inr (.inr (.inr (.inr f'))))) = ws') (k : nK D A p l e R s m args below meth c nL QQ ws' (ce) (sl) (pc) lv (st)) : nK D A p l e R s m args below meth c nL QQ ws (ce) (sl) (pc) lv (st) := by
  intro H locs ls hP hD hS hl
  have h1 := hP q0 _ ha
  have hP1 := hP.set hD ha (e := .inl (cS, n, .inr (.inr (.inr (.inr f'))))) (H1 := H) (by
    have e1 : vp_cell cS (n, .inr (.inr (.inr (.inr f')))) = vp_cell cS (n, .inr (.inr (.inr (.inr f)))) := by
      rw [vp_cell_q, vp_cell_q]
      unfold arrV
      congr 1
      apply congrArg Array.ofFn
      funext j
      exact congrArg va_rf (hf j.val j.isLt).symm
    show H[a]? = some (vp_cell cS (n, .inr (.inr (.inr (.inr f')))))
    rw [e1]
    exact h1) (fun _ _ => rfl)
  have hD1 := hD.set ha (e := .inl (cS, n, .inr (.inr (.inr (.inr f')))))
  rw [hw] at hP1 hD1
  exact k H locs ls hP1 hD1 hS hl
theorem n_callG (E : nE D tys A p s m args meth c cc nL own rt0 nm) {wd : gMem → va_W} {lg : Nat → Bool} {kd : Int → Option Value} {rg : Int → Prop} {σ : gMem} {ρ1 : gRes} {wr : va_W} {y : MethodName} {b : ByteArray} {n fr lo index np a q0 ci N : Nat} {rt : Option FieldType} {C : String} {T : u_T} {fs As : List Value} (hC : gC l y b n rt fr lo D vwCl tys wd lg kd rg (.ref a :: As) σ ρ1) (hwd : ∀ σ, (wd σ).map (·.1) = (wd (fun _ _ => 0)).map (·.1)) (hMR : gMR lg σ) (ha : (wd σ)[q0]? = some (a, .inr (ci, fs))) (hc : vwCl[ci]? = some (C, T, N)) (hcode : Cond.code y b n rt ∈ gBIG) (hini : Cond.initialized y.cls ∈ gBIG) (hlink : Cond.methodLink own index y ∈ gBIG) (hinst : Cond.instanceMethod y ∈ gBIG) (hsel : Cond.selects C y y ∈ gBIG) (hy : y.cls ≠ "java/lang/invoke/MethodHandle" ∧ y.cls ≠ "java/lang/invoke/VarHandle" ∧ (parseMethodDescriptor y.desc).map (fun d => d.parameters.length) = some np) (hR1 : fr + 1 ≤ R.frames ∧ 8 + (n + 11) + lo ≤ R.locals) (hce : ce + 0 ≤ R.cells ∧ sl + 0 ≤ R.slots) (hn : As.length = np) (hst : (st.map fun v => v.category).sum ≤ 8) (isC isR : List Nat) (hCc : isC.map (fun i => ws[i]?) = (wd σ).map some) (hRr : isR.map (fun i => ws[i]?) = wr.map some) (hndC : va_nd isC = true) (hnd : va_nd isR = true) (hdis : ∀ i ∈ isR, i ∉ isC) (d : decode cc pc = .ok (.invokevirtual index, 3)) (k : rg ρ1.1 → gMR lg ρ1.2 → nK D A p l e R s m args below meth c nL QQ (wr ++ wd ρ1.2) (ce + 0) (sl + 0) (pc + 3) lv ((kd ρ1.1).toList ++ st)) : nK D A p l e R s m args below meth c nL QQ ws (ce) (sl) (pc) lv (As.reverse ++ .ref a :: st) := by
  intro H locs ls hP hD hS hl
  have hs := fun w hw => E.2.2.2.2.1 w hw
  have hPc : va_P D vwCl (wd σ) H := hP.by (fun k => isC.getD k 0) (n_at hCc)
  have hF := va_free hD hS E.2.2.2.2.2.2.2.1 isC hCc
  have hFg : ∀ q, gA wd H.size q → A q := fun q h => hF q (n_gA hwd h)
  have hDc : va_D (fun _ => True) (wd σ) := (hD.sub isC hndC hCc).weaken (fun _ _ _ _ => trivial)
  have hpre : ∀ U : State, U.heap = H → s.WarmedH U.vm → gPre D vwCl tys wd lg σ U := fun U hU hW => ⟨by rw [hU]; exact hPc, va_K.moved hW.alike E.2.2.2.2.2.1, hDc, hMR, gNw_warm hW E.2.2.2.2.2.2.2.2.2.1.1⟩
  have hr := va_runV (b := a) (As := As) (rest := st) ⟨E.1, E.2.1, E.2.2.1, E.2.2.2.1, E.2.2.2.2.1⟩ (hC H.size) (C := C) (n := np) (bytes := b) (maxL := n) (ret := rt) (g := F0 m pc ls (As.reverse ++ .ref a :: st)) (H := H) (locs := locs) (cells := ce) (slots := sl) (R := R) (p := p) (e := e) (below := below) (meth := meth) ⟨callB_of np E.2.2.2.2.1 (n_good hcode) rfl rfl rfl (hs _ hini) (hs _ hlink) hy hR1, hs _ hinst, hs _ hsel⟩ ⟨fun a U g mk q => ⟨q.1, q.2.1, gPre_moved q.2.2⟩, va_recv E.2.2.2.2.2.1 hPc hc ha, fun U hU hW => by
    have hU2 : U.heap.size = H.size := by rw [hU]
    exact ⟨rfl, hU2, hpre U hU hW⟩⟩ rfl hn hl.1 rfl (lv_room hst) d hce
  intro T hT X
  obtain ⟨v, st₀, t, T', L, h0, X', hL, e1, e2, ⟨hv, hrg, hP1, hD1, hR1', hz, hk⟩, stp⟩ := hr T hT X
  rw [h0] at hz hk
  have hv : v = kd ρ1.1 := by injection hv
  subst hv
  rw [← e1] at hP1 hz hk
  obtain ⟨hP2, hD2⟩ := va_join hP hD isC isR hCc hRr hnd hdis (fun q h1 h2 => hk q h1 (fun z => h2 (n_gA hwd z))) hF hP1 (hD1.weaken (fun _ q _ h => n_gA hwd h))
  obtain ⟨t2, a1, b1⟩ := k hrg hR1' T'.heap (locs ++ L) ls hP2 hD2 ⟨Nat.le_trans hS.1 hz, fun q h1 h2 => by
      rw [hk q (Nat.lt_of_lt_of_le h1 hS.1) (fun z => h2 (hFg q z))]
      exact hS.2.1 q h1 h2, fun q hq => by
      rcases List.mem_append.mp hq with h | h
      · exact hS.2.2 q h
      · exact hFg _ (hL q h)⟩ hl T' rfl X'
  exact ⟨t2, stp t2 a1, b1⟩
theorem n_callGS (E : nE D tys A p s m args meth c cc nL own rt0 nm) {adK adV : Nat → Nat} {kA : Nat} (HX : XS adK adV kA A s) {wd : gMem → va_W} {lg : Nat → Bool} {kd : Int → Option Value} {rg : Int → Prop} {σ : gMem} {ρ1 : gRes} {wr : va_W} {y : MethodName} {b : ByteArray} {n fr lo index np a q0 ci N : Nat} {rt : Option FieldType} {C : String} {T : u_T} {fs As : List Value} (hC : gCS l y b n rt fr lo D vwCl tys wd lg kd rg (.ref a :: As) σ ρ1 adK adV kA) (hwd : ∀ σ, (wd σ).map (·.1) = (wd (fun _ _ => 0)).map (·.1)) (hMR : gMR lg σ) (ha : (wd σ)[q0]? = some (a, .inr (ci, fs))) (hc : vwCl[ci]? = some (C, T, N)) (hcode : Cond.code y b n rt ∈ gBIG) (hini : Cond.initialized y.cls ∈ gBIG) (hlink : Cond.methodLink own index y ∈ gBIG) (hinst : Cond.instanceMethod y ∈ gBIG) (hsel : Cond.selects C y y ∈ gBIG) (hy : y.cls ≠ "java/lang/invoke/MethodHandle" ∧ y.cls ≠ "java/lang/invoke/VarHandle" ∧ (parseMethodDescriptor y.desc).map (fun d => d.parameters.length) = some np) (hR1 : fr + 1 ≤ R.frames ∧ 8 + (n + 11) + lo ≤ R.locals) (hce : ce + 0 ≤ R.cells ∧ sl + 0 ≤ R.slots) (hn : As.length = np) (hst : (st.map fun v => v.category).sum ≤ 8) (isC isR : List Nat) (hCc : isC.map (fun i => ws[i]?) = (wd σ).map some) (hRr : isR.map (fun i => ws[i]?) = wr.map some) (hndC : va_nd isC = true) (hnd : va_nd isR = true) (hdis : ∀ i ∈ isR, i ∉ isC) (d : decode cc pc = .ok (.invokevirtual index, 3)) (k : rg ρ1.1 → gMR lg ρ1.2 → nK D A p l e R s m args below meth c nL QQ (wr ++ wd ρ1.2) (ce + 0) (sl + 0) (pc + 3) lv ((kd ρ1.1).toList ++ st)) : nK D A p l e R s m args below meth c nL QQ ws (ce) (sl) (pc) lv (As.reverse ++ .ref a :: st) := by
  intro H locs ls hP hD hS hl
  have hs := fun w hw => E.2.2.2.2.1 w hw
  have hPc : va_P D vwCl (wd σ) H := hP.by (fun k => isC.getD k 0) (n_at hCc)
  have hF := va_free hD hS E.2.2.2.2.2.2.2.1 isC hCc
  have hFg : ∀ q, gA wd H.size q → A q := fun q h => hF q (n_gA hwd h)
  have hDc : va_D (fun _ => True) (wd σ) := (hD.sub isC hndC hCc).weaken (fun _ _ _ _ => trivial)
  have hpre : ∀ U : State, U.heap = H → s.WarmedH U.vm → gPre D vwCl tys wd lg σ U := fun U hU hW => ⟨by rw [hU]; exact hPc, va_K.moved hW.alike E.2.2.2.2.2.1, hDc, hMR, gNw_warm hW E.2.2.2.2.2.2.2.2.2.1.1⟩
  have hr := va_runV (b := a) (As := As) (rest := st) ⟨E.1, E.2.1, E.2.2.1, E.2.2.2.1, E.2.2.2.2.1⟩ (hC H.size) (C := C) (n := np) (bytes := b) (maxL := n) (ret := rt) (g := F0 m pc ls (As.reverse ++ .ref a :: st)) (H := H) (locs := locs) (cells := ce) (slots := sl) (R := R) (p := p) (e := e) (below := below) (meth := meth) ⟨callB_of np E.2.2.2.2.1 (n_good hcode) rfl rfl rfl (hs _ hini) (hs _ hlink) hy hR1, hs _ hinst, hs _ hsel⟩ ⟨fun a U g mk q => ⟨q.1, ⟨q.2.1.1, gPre_moved q.2.1.2⟩, XS_calling q.2.2⟩, va_recv E.2.2.2.2.2.1 hPc hc ha, fun U hU hW => by
    have hU2 : U.heap.size = H.size := by rw [hU]
    exact ⟨rfl, ⟨hU2, hpre U hU hW⟩, XS_go HX hS hU hW hFg⟩⟩ rfl hn hl.1 rfl (lv_room hst) d hce
  intro T hT X
  obtain ⟨v, st₀, t, T', L, h0, X', hL, e1, e2, ⟨hv, hrg, hP1, hD1, hR1', hz, hk⟩, stp⟩ := hr T hT X
  rw [h0] at hz hk
  have hv : v = kd ρ1.1 := by injection hv
  subst hv
  rw [← e1] at hP1 hz hk
  obtain ⟨hP2, hD2⟩ := va_join hP hD isC isR hCc hRr hnd hdis (fun q h1 h2 => hk q h1 (fun z => h2 (n_gA hwd z))) hF hP1 (hD1.weaken (fun _ q _ h => n_gA hwd h))
  obtain ⟨t2, a1, b1⟩ := k hrg hR1' T'.heap (locs ++ L) ls hP2 hD2 ⟨Nat.le_trans hS.1 hz, fun q h1 h2 => by
      rw [hk q (Nat.lt_of_lt_of_le h1 hS.1) (fun z => h2 (hFg q z))]
      exact hS.2.1 q h1 h2, fun q hq => by
      rcases List.mem_append.mp hq with h | h
      · exact hS.2.2 q h
      · exact hFg _ (hL q h)⟩ hl T' rfl X'
  exact ⟨t2, stp t2 a1, b1⟩
end NK
/-! the end of a constructor -/
theorem n_ret {D : va_G} {tys : List (ClassId × FieldType)} {A : Nat → Prop} {p : Program} {l : Launch} {e : Env} {R : Room} {s : State} {m : MethodId} {args : Array Value} {below : List Frame} {meth : Method} {c : Code} {nL : Nat} {ws w0 : va_W} {w1 : (Nat → Nat) → va_W} {ce sl pc : Nat} {lv : List (Nat × Value)} {cc : ByteArray} {own nm : String} (E : nE D tys A p s m args meth c cc nL own none nm) (hAe : A = va_A w0 s.heap.size) (u : Nat → Nat) (g : List Nat) (hg : g.map (fun i => ws[i]?) = (w1 u).map some) (hnd : va_nd g = true) (d : decode cc pc = .ok (.return_, 1)) : nK D A p l e R s m args below meth c nL (nQ D below args s w0 w1 ce sl) ws ce sl pc lv [] := by
  intro H locs ls hP hD hS hl
  have hP1 : va_P D vwCl (w1 u) H := hP.by (fun k => g.getD k 0) (n_at hg)
  have hD1 : va_D A (w1 u) := hD.sub g hnd hg
  subst hAe
  exact W.vret E.1 E.2.1 E.2.2.2.2.2.2.2.2.1 (fun t ht hW => ⟨⟨u, rfl, trivial, by rw [ht]; exact hP1, hD1⟩, hS.F ht⟩) hS.2.2 d E.2.2.2.2.2.2.1
end
