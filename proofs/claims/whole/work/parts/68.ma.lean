section
/-! a new array of int rows (multianewarray with two counts), over the model itself; our own row -/
section MM0
variable {E : CtlPost} {e : Env} {d : Bool} {acts : List Action} {s : State}
/-- the array of rows when i of its N rows are there; a row -/
def mm_o (cT : ClassId) (h N i : Nat) : Cell := arrV cT N (fun j => if j < i then .ref (h + 1 + j) else .null)
def mm_r (cI : ClassId) (M : Nat) : Cell := arrV cI M (fun _ => .int 0)
def mm_t (t : State) (cT cI : ClassId) (N M : Nat) : Nat → State
  | 0 => t.pushCell (mm_o cT t.heap.size N 0)
  | i + 1 => ((mm_t t cT cI N M i).pushCell (mm_r cI M)).setCell t.heap.size (mm_o cT t.heap.size N (i + 1))
theorem mm_o_set (cT : ClassId) (h N i : Nat) : (mm_o cT h N i).setSlot i (.ref (h + 1 + i)) = mm_o cT h N (i + 1) := by
  unfold mm_o
  rw [arrV_store]
  congr 1
  funext j
  simp only [updV]
  by_cases q : j = i
  · rw [if_pos q, if_pos (by omega), q]
  · rw [if_neg q]
    by_cases q2 : j < i
    · rw [if_pos q2, if_pos (by omega)]
    · rw [if_neg q2, if_neg (by omega)]
/-- what the heap, the tables and the room are when i rows are there -/
def mm_I (t u : State) (cT cI : ClassId) (N M i : Nat) : Prop :=
  u.heap.size = t.heap.size + 1 + i ∧ u.heap[t.heap.size]? = some (mm_o cT t.heap.size N i) ∧ u.vm = t.vm ∧ u.slotsUsed = t.slotsUsed + N + i * M ∧ (∀ a : Nat, a < t.heap.size → u.heap[a]? = t.heap[a]?) ∧ ∀ j : Nat, j < i → u.heap[t.heap.size + 1 + j]? = some (mm_r cI M)
theorem mm_t_I (t : State) (cT cI : ClassId) (N M : Nat) : ∀ i, mm_I t (mm_t t cT cI N M i) cT cI N M i
  | 0 => ⟨State.heap_size_pushCell _ _, State.heap_pushCell_size _ _, rfl, by
      show t.slotsUsed + (mm_o cT t.heap.size N 0).slots.size = _
      rw [mm_o, arrV_size]; omega, fun a ha => State.heap_pushCell_of_lt _ _ ha, fun j hj => absurd hj (Nat.not_lt_zero _)⟩
  | i + 1 => by
    obtain ⟨g1, g2, g3, g4, g5, g6⟩ := mm_t_I t cT cI N M i
    have hlt : t.heap.size < (mm_t t cT cI N M i).heap.size := by omega
    have g2' : ((mm_t t cT cI N M i).pushCell (mm_r cI M)).heap[t.heap.size]? = some (mm_o cT t.heap.size N i) := by
      rw [State.heap_pushCell_of_lt _ _ hlt]; exact g2
    refine ⟨?_, State.heap_setCell_self g2', g3, ?_, fun a ha => ?_, fun j hj => ?_⟩
    · have h9 := State.heap_size_pushCell (mm_t t cT cI N M i) (mm_r cI M)
      show (((mm_t t cT cI N M i).pushCell (mm_r cI M)).setCell t.heap.size _).heap.size = _
      rw [State.heap_setCell, Array.size_setIfInBounds, h9, g1]
      omega
    · show (mm_t t cT cI N M i).slotsUsed + (mm_r cI M).slots.size = _
      rw [g4, mm_r, arrV_size, Nat.succ_mul]; omega
    · show (((mm_t t cT cI N M i).pushCell (mm_r cI M)).setCell t.heap.size _).heap[a]? = _
      rw [State.heap_setCell_other (Nat.ne_of_gt ha), State.heap_pushCell_of_lt _ _ (Nat.lt_trans ha hlt)]
      exact g5 a ha
    · show (((mm_t t cT cI N M i).pushCell (mm_r cI M)).setCell t.heap.size _).heap[t.heap.size + 1 + j]? = _
      rw [State.heap_setCell_other (show t.heap.size ≠ t.heap.size + 1 + j by omega)]
      by_cases q : j < i
      · have hl2 : t.heap.size + 1 + j < (mm_t t cT cI N M i).heap.size := by rw [g1]; omega
        rw [State.heap_pushCell_of_lt _ _ hl2]
        exact g6 j q
      · have q2 : j = i := by omega
        rw [q2, ← g1]
        exact State.heap_pushCell_size _ _
theorem mm_t_top (t : State) (f : JFrame) (cT cI : ClassId) (N M : Nat) : ∀ i, mm_t (t.setTop f) cT cI N M i = (mm_t t cT cI N M i).setTop f
  | 0 => rfl
  | i + 1 => by
    show ((mm_t (t.setTop f) cT cI N M i).pushCell (mm_r cI M)).setCell t.heap.size (mm_o cT t.heap.size N (i + 1)) = _
    rw [mm_t_top t f cT cI N M i]
    rfl
theorem mm_new {c comp : ClassId} {k : Class} {type : FieldType} {n : Nat} {v : Value} (hk : s.vm.classes[c]? = some k) (hkind : k.kind = .array comp type) (h1 : ¬ n > e.platform.arrayLengthLimit) (h2 : ¬ n * componentBytes type > e.platform.maxHeapBytes) (hv : fits type v = true) (hd : v.isDefault = true) (h3 : s.heap.size < e.platform.maxCells) (h4 : s.slotsUsed + n ≤ e.platform.maxSlots) {Q : Addr → Pre} (hq : Q s.heap.size d acts (s.pushCell { cls := c, slots := Array.replicate n v, vm := .none })) : wp (Jvm.newArray c n v) Q E e d acts s := by
  have hf : ∀ i x, (Array.replicate n v)[i]? = some x → s.fitsSlot c .none i x = true := fun i x hx => by
    rw [Array.getElem?_replicate] at hx
    by_cases q : i < n
    · rw [if_pos q] at hx
      cases hx
      simp [State.fitsSlot, State.slotType?, hk, hkind, hv]
    · rw [if_neg q] at hx
      cases hx
  have ha : allocActs (Array.replicate n v) s.heap.size acts = acts := by
    unfold allocActs
    refine if_pos ?_
    rw [Array.all_replicate]
    split
    · rfl
    · exact hd
  unfold Jvm.newArray Jvm.arrayFits
  simp only [wp_bind', W.ask, W.ite, if_neg h1, wp_pure', W.theClass, hk, hkind, if_neg h2, W.stop, W.alloc, Array.size_replicate, ha, Option.some.injEq, exists_eq_left']
  rw [if_neg (by omega)]
  exact ⟨h3, h4, hf, hq⟩
theorem mm_o_0 (cT : ClassId) (h N : Nat) : mm_o cT h N 0 = arrV cT N (fun _ => .null) := by
  unfold mm_o
  congr 1
theorem mm_row {cI cc : ClassId} {k : Class} {m : Int32} (hk : s.vm.classes[cI]? = some k) (hkind : k.kind = .array cc .int) (hm : ¬ m < 0) (h1 : ¬ m.toNatClampNeg > e.platform.arrayLengthLimit) (h2 : ¬ m.toNatClampNeg * 4 > e.platform.maxHeapBytes) (h3 : s.heap.size < e.platform.maxCells) (h4 : s.slotsUsed + m.toNatClampNeg ≤ e.platform.maxSlots) {Q : Addr → Pre} (hq : Q s.heap.size d acts (s.pushCell (mm_r cI m.toNatClampNeg))) : wp (multianewarray.make cI [m]) Q E e d acts s := by
  rw [multianewarray.make]
  simp only [wp_bind', W.ite, if_neg hm, wp_pure', W.theClass, hk, hkind, Option.some.injEq, exists_eq_left']
  refine mm_new hk hkind h1 h2 rfl rfl h3 h4 ?_
  rw [arrV_new]
  exact hq
theorem mm_make {cT cI cc : ClassId} {k kI : Class} {n m : Int32} (hk : s.vm.classes[cT]? = some k) (hkind : k.kind = .array cI (.array .int)) (hkI : s.vm.classes[cI]? = some kI) (hkindI : kI.kind = .array cc .int) (hn : ¬ n < 0) (hm : ¬ m < 0) (h1 : ¬ n.toNatClampNeg > e.platform.arrayLengthLimit) (h2 : ¬ n.toNatClampNeg * 4 > e.platform.maxHeapBytes) (h3 : ¬ m.toNatClampNeg > e.platform.arrayLengthLimit) (h4 : ¬ m.toNatClampNeg * 4 > e.platform.maxHeapBytes) (h5 : s.heap.size + 1 + n.toNatClampNeg ≤ e.platform.maxCells) (h6 : s.slotsUsed + n.toNatClampNeg + n.toNatClampNeg * m.toNatClampNeg ≤ e.platform.maxSlots) {Q : Addr → Pre} (hq : ∀ d' acts', Q s.heap.size d' acts' (mm_t s cT cI n.toNatClampNeg m.toNatClampNeg n.toNatClampNeg)) : wp (multianewarray.make cT [n, m]) Q E e d acts s := by
  have hfi : ([m].find? (· < 0)) = none := by simp [hm]
  have hfr : ∀ a : Nat, fits (.array .int) (.ref a) = true := fun _ => rfl
  rw [multianewarray.make]
  simp only [wp_bind', W.ite, if_neg hn, wp_pure', W.theClass, hk, hkind, Option.some.injEq, exists_eq_left']
  refine mm_new hk hkind h1 h2 rfl rfl (by omega) (by have := Nat.zero_le (n.toNatClampNeg * m.toNatClampNeg); omega) ?_
  simp only [hfi]
  rw [ite_self, wp_bind', Std.Legacy.Range.forIn_eq_forIn_range', show ([:n.toNatClampNeg] : Std.Legacy.Range).size = n.toNatClampNeg by simp [Std.Legacy.Range.size]]
  rw [arrV_new, ← mm_o_0 cT s.heap.size n.toNatClampNeg]
  show wp (forIn (List.range' 0 n.toNatClampNeg 1) PUnit.unit _) _ E e d acts (mm_t s cT cI n.toNatClampNeg m.toNatClampNeg 0)
  refine wp_forIn_inv (fun r u => ∃ i, i + r.length = n.toNatClampNeg ∧ r = List.range' i r.length ∧ u = mm_t s cT cI n.toNatClampNeg m.toNatClampNeg i) _ _ ⟨0, by simp, by simp, rfl⟩ ?_ ?_
  · rintro x r u d' acts' Q' ⟨i, hi, hr, rfl⟩ hnext
    rw [List.length_cons, List.range'_succ] at hr
    obtain ⟨hx, hr⟩ := List.cons.inj hr
    subst hx
    rw [List.length_cons] at hi
    obtain ⟨g1, g2, g3, g4, g5, g6⟩ := mm_t_I s cT cI n.toNatClampNeg m.toNatClampNeg x
    have hle : x * m.toNatClampNeg + m.toNatClampNeg ≤ n.toNatClampNeg * m.toNatClampNeg := by
      have h9 := Nat.mul_le_mul_right m.toNatClampNeg (show x + 1 ≤ n.toNatClampNeg by omega)
      rwa [Nat.succ_mul] at h9
    have hlt : s.heap.size < (mm_t s cT cI n.toNatClampNeg m.toNatClampNeg x).heap.size := by omega
    simp only [wp_bind']
    refine mm_row (by rw [g3]; exact hkI) hkindI hm h3 h4 (by omega) (by rw [g4]; omega) ?_
    simp only [wp_bind', W.writeLoc, wp_pure']
    refine ⟨mm_o cT s.heap.size n.toNatClampNeg x, by rw [State.heap_pushCell_of_lt _ _ hlt]; exact g2, (fun q => (by cases q)), (by rw [mm_o, arrV_size]; omega), ?_, hnext _ _ _ ⟨x + 1, by omega, hr, ?_⟩⟩
    · show State.fitsSlot _ cT .none x _ = true
      simp [State.fitsSlot, State.slotType?, g3, hk, hkind, hfr]
    · rw [g1, mm_o_set]
      rfl
  · rintro u d' acts' ⟨i, hi, -, rfl⟩
    have hiN : i = n.toNatClampNeg := by simpa using hi
    subst hiN
    simp only [wp_pure']
    exact hq _ _
end MM0
section MM1
variable {p : Program} {l : Launch} {e : Env} {R : Room} {s : State} {m : MethodId} {args : Array Value} {below : List Frame} {meth : Method} {c : Code} {T : State} {H H0 : Heap} {locs : List Loc} {cells slots : Nat} {Q : State → Prop} {cc : ByteArray} {pc : Nat} {ls : Array Slot} {rest : List Value} {D : va_G} {cl : List vw_C} {tys : List (ClassId × FieldType)} {ws : va_W} {A : Nat → Prop}
/-- what the tables say of arrays of int rows -/
def mm_A (U : State) : Prop := ∃ (cI cT cc : ClassId) (kT kI : Class), U.vm.findClass ("[" ++ FieldType.int.toString) = some cI ∧ U.vm.findClass ("[" ++ (FieldType.array .int).toString) = some cT ∧ U.vm.classes[cT]? = some kT ∧ kT.kind = .array cI (.array .int) ∧ U.vm.classes[cI]? = some kI ∧ kI.kind = .array cc .int
theorem mm_A.moved {u U : State} (hvm : u.vm.Alike U.vm) (h : mm_A u) : mm_A U := by
  obtain ⟨cI, cT, cc, kT, kI, h1, h2, h3, h4, h5, h6⟩ := h
  obtain ⟨kT', h7, e7⟩ := hvm.2.2 _ _ h3
  obtain ⟨kI', h8, e8⟩ := hvm.2.2 _ _ h5
  exact ⟨cI, cT, cc, kT', kI', by rw [hvm.findClass]; exact h1, by rw [hvm.findClass]; exact h2, h7, by rw [e7]; exact h4, h8, by rw [e8]; exact h6⟩
theorem mm_A_of {args : Array Value} {U : State} (h1 : (Cond.arrayOver (.array .int)).before args U = true) (h2 : (Cond.arrayClass .int).before args U = true) : mm_A U := by
  obtain ⟨cI, cT, kT, hI, -, hkT, hkindT, hT⟩ := arrayOverA_spec h1
  obtain ⟨cI', kI, cI2, hI', hkI, hkindI⟩ := Cond.arrayClass_spec h2
  have eI : cI' = cI := Option.some.inj (hI'.symm.trans hI)
  subst eI
  exact ⟨cI', cT, cI2, kT, kI, hI, hT, hkT, hkindT, hkI, hkindI⟩
def mm_l (h i : Nat) : List Loc := (List.range i).map (fun j => (⟨h, j⟩ : Loc))
theorem mm_stand (X : Stand p l e R s m args below meth c T locs cells slots) (cT cI : ClassId) (N M : Nat) : ∀ i, Stand p l e R s m args below meth c (mm_t T cT cI N M i) (locs ++ mm_l T.heap.size i) (cells + (1 + i)) (slots + (N + i * M))
  | 0 => by
    have h := X.pushed (mm_o cT T.heap.size N 0)
    rw [mm_o, arrV_size] at h
    have e1 : locs ++ mm_l T.heap.size 0 = locs := List.append_nil _
    rw [e1, Nat.zero_mul]
    exact h
  | i + 1 => by
    obtain ⟨g1, g2, g3, g4, g5, g6⟩ := mm_t_I T cT cI N M i
    have hlt : T.heap.size < (mm_t T cT cI N M i).heap.size := by omega
    have h := ((mm_stand X cT cI N M i).pushed (mm_r cI M)).stored (a := T.heap.size) (by rw [State.heap_pushCell_of_lt _ _ hlt]; exact g2) i (.ref (T.heap.size + 1 + i))
    rw [mm_o_set, mm_r, arrV_size] at h
    have e1 : locs ++ mm_l T.heap.size (i + 1) = locs ++ mm_l T.heap.size i ++ [⟨T.heap.size, i⟩] := by
      unfold mm_l
      rw [List.range_succ, List.map_append, List.append_assoc]
      rfl
    have e2 : slots + (N + (i + 1) * M) = slots + (N + i * M) + M := by rw [Nat.succ_mul]; omega
    rw [e1, e2]
    exact h
theorem mm_step (X : Stand p l e R s m args below meth c T locs cells slots) (hexec : p.tables.exec = Jvm.exec) {own : String} {index : Nat} (hown : s.vm.findClass own = some m.cls) (hclink : (Cond.classLink own index ("[" ++ (FieldType.array .int).toString)).before args s = true) (hmA : mm_A s)
    {g : JFrame} (hg : g.method = m) (hdg : decode c.code g.pc = .ok (.multianewarray index 2, 4)) {n k : Int32} (hstack : g.stack = .int k :: .int n :: rest) (hn : ¬ n < 0) (hk : ¬ k < 0) (hb1 : n.toNatClampNeg * 4 ≤ 536870912) (hb2 : k.toNatClampNeg * 4 ≤ 536870912)
    (hcells : cells + (1 + n.toNatClampNeg) ≤ R.cells) (hslots : slots + (n.toNatClampNeg + n.toNatClampNeg * k.toNatClampNeg) ≤ R.slots) :
    ∃ (vm₁ : Vm) (cT cI cc : ClassId) (kT kI : Class), s.WarmedH vm₁ ∧ s.vm.findClass ("[" ++ (FieldType.array .int).toString) = some cT ∧ s.vm.findClass ("[" ++ FieldType.int.toString) = some cI ∧ s.vm.classes[cT]? = some kT ∧ kT.kind = .array cI (.array .int) ∧ s.vm.classes[cI]? = some kI ∧ kI.kind = .array cc .int ∧
      Stand p l e R s m args below meth c (mm_t (T.setVm vm₁) cT cI n.toNatClampNeg k.toNatClampNeg n.toNatClampNeg) (locs ++ mm_l T.heap.size n.toNatClampNeg) (cells + (1 + n.toNatClampNeg)) (slots + (n.toNatClampNeg + n.toNatClampNeg * k.toNatClampNeg)) ∧
      ∀ target, Steps p.tables e below ((mm_t (T.setVm vm₁) cT cI n.toNatClampNeg k.toNatClampNeg n.toNatClampNeg).setTop { g with pc := g.pc + 4, stack := .ref T.heap.size :: rest }) target → Steps p.tables e below (T.setTop g) target := by
  subst hg
  have hpl : e.platform.magicAccessors = ({} : Platform).magicAccessors := by rw [X.admits.platform]
  obtain ⟨cI', cT, cI2, kT, kI, hI, hT, hkT, hkindT, hkI, hkindI⟩ := hmA
  obtain ⟨cT', hT', hcl⟩ := Cond.classLink_spec hown hclink e.platform hpl
  have eT : cT' = cT := Option.some.inj (hT'.symm.trans hT)
  subst eT
  obtain ⟨hg₁, hwarm₁, hready₁⟩ := State.classEntry (e := e) X.warmed hcl
  generalize T.vm.noted g.method.cls index (.cls cT') = vm₁ at hg₁ hwarm₁ hready₁
  obtain ⟨kT₁, hkT₁, heT⟩ := hwarm₁.alike.2.2 _ _ hkT
  obtain ⟨kI₁, hkI₁, heI⟩ := hwarm₁.alike.2.2 _ _ hkI
  obtain ⟨hr1, hr2⟩ := X.roomAbove hcells hslots
  have XF := mm_stand (X.noted hwarm₁) cT' cI' n.toNatClampNeg k.toNatClampNeg n.toNatClampNeg
  refine ⟨vm₁, cT', cI', cI2, kT, kI, hwarm₁, hT, hI, hkT, hkindT, hkI, hkindI, XF, fun target hrest => ?_⟩
  jvm_step X.here [hexec, hdg]
  simp only [multianewarray.sem, wp_bind', W.resolveClassAt_links (State.method?_setTop g X.here.top) hg₁]
  rw [W.popN, if_neg (by decide)]
  refine ⟨g, State.topJava?_setTop' (s := T.setVm vm₁) g X.here.top, [.int n, .int k], rest, rfl, hstack, ?_⟩
  simp only [List.mapM_cons, List.mapM_nil, wp_bind', wp_pure']
  refine mm_make (k := kT₁) (kI := kI₁) (cI := cI') (cc := cI2) hkT₁ (by rw [heT]; exact hkindT) hkI₁ (by rw [heI]; exact hkindI) hn hk (by rw [Launch.admits_arrayLengthLimit X.admits]; omega) (by rw [Launch.admits_maxHeapBytes X.admits]; omega) (by rw [Launch.admits_arrayLengthLimit X.admits]; omega) (by rw [Launch.admits_maxHeapBytes X.admits]; omega) (by show T.heap.size + 1 + _ ≤ _; omega) (by show T.slotsUsed + _ + _ ≤ _; omega) (fun d' acts' => ?_)
  have eS : ((T.setTop g).setVm vm₁).setTop { g with stack := rest } = (T.setVm vm₁).setTop { g with stack := rest } := by
    show ((T.setVm vm₁).setTop g).setTop _ = _
    rw [State.setTop_setTop]
  rw [eS, mm_t_top]
  simp only [wp_bind', W.mark, W.pushRef, State.topJava?_setTop' _ XF.here.top, Option.some.injEq, exists_eq_left', State.setTop_setTop, State.heap_setTop]
  intro acts
  simp [jvm, XF.here.top]
  exact hrest
def mm_w (q : Nat) (cT cI : ClassId) (N M : Nat) : va_W := (q, .inl (cT, N, .inr (.inr (.inr (.inr (fun j => some (q + 1 + j))))))) :: (List.range N).map (fun j => (q + 1 + j, .inl (cI, M, .inl (fun _ => 0))))
theorem mm_w_at {q : Nat} {cT cI : ClassId} {N M k : Nat} {x : Nat × va_E} (h : (mm_w q cT cI N M)[k]? = some x) : (k = 0 ∧ x = (q, .inl (cT, N, .inr (.inr (.inr (.inr (fun j => some (q + 1 + j)))))))) ∨ ∃ j : Nat, k = j + 1 ∧ j < N ∧ x = (q + 1 + j, .inl (cI, M, .inl (fun _ => 0))) := by
  cases k with
  | zero => exact Or.inl ⟨rfl, (Option.some.inj h).symm⟩
  | succ j =>
    have h2 : ((List.range N).map (fun j => ((q + 1 + j, .inl (cI, M, .inl (fun _ => 0))) : Nat × va_E)))[j]? = some x := h
    rw [List.getElem?_map, Option.map_eq_some_iff] at h2
    obtain ⟨j', h3, h4⟩ := h2
    have h5 := List.getElem?_eq_some_iff.mp h3
    obtain ⟨h6, h7⟩ := h5
    rw [List.getElem_range] at h7
    rw [List.length_range] at h6
    exact Or.inr ⟨j, rfl, h6, by rw [← h4, ← h7]⟩
theorem va_multi (hexec : p.tables.exec = Jvm.exec) (hb : c.code = cc) {own : String} {index : Nat} (hown : s.vm.findClass own = some m.cls) (hclink : (Cond.classLink own index ("[" ++ (FieldType.array .int).toString)).before args s = true) (hmA : mm_A s)
    (hP : va_P D cl ws H) (hD : va_D A ws) (hS : va_S A H0 H locs) (hA : ∀ q, H0.size ≤ q → A q) {n k : Int32} {N M : Nat} (hn : ¬ n < 0) (hN : n.toNatClampNeg = N) (hk : ¬ k < 0) (hM : k.toNatClampNeg = M) (hb1 : N * 4 ≤ 536870912) (hb2 : M * 4 ≤ 536870912) (hcells : cells + (1 + N) ≤ R.cells) (hslots : slots + (N + N * M) ≤ R.slots) (hdg : decode cc pc = .ok (.multianewarray index 2, 4))
    (kk : ∀ (q : Nat) (cT cI : ClassId) (H1 : Heap) (locs1 : List Loc), s.vm.findClass ("[" ++ (FieldType.array .int).toString) = some cT → s.vm.findClass ("[" ++ FieldType.int.toString) = some cI → va_P D cl (ws ++ mm_w q cT cI N M) H1 → va_D A (ws ++ mm_w q cT cI N M) → va_S A H0 H1 locs1 → W p l e R s m args below meth c H1 locs1 (cells + (1 + N)) (slots + (N + N * M)) Q (F0 m (pc + 4) ls (.ref q :: rest))) : W p l e R s m args below meth c H locs cells slots Q (F0 m pc ls (.int k :: .int n :: rest)) := by
  intro T hT X
  subst hT; subst hb
  obtain ⟨vm₁, cT, cI, cI2, kT, kI, hw, hnT, hnI, -, -, -, -, X', st⟩ := mm_step X hexec hown hclink hmA (g := F0 m pc ls (.int k :: .int n :: rest)) rfl hdg rfl hn hk (by rw [hN]; exact hb1) (by rw [hM]; exact hb2) (by rw [hN]; exact hcells) (by rw [hN, hM]; exact hslots)
  rw [hN, hM] at X' st
  obtain ⟨g1, g2, g3, g4, g5, g6⟩ := mm_t_I (T.setVm vm₁) cT cI N M N
  have hsz : ∀ (i : Nat) (x : Nat × va_E), ws[i]? = some x → x.1 < T.heap.size := fun i x hx => (hP i x hx).lt
  have h1 : va_P D cl (mm_w T.heap.size cT cI N M) (mm_t (T.setVm vm₁) cT cI N M N).heap := by
    intro i x hx
    rcases mm_w_at hx with ⟨-, rfl⟩ | ⟨j, -, hj, rfl⟩
    · show (mm_t (T.setVm vm₁) cT cI N M N).heap[T.heap.size]? = some (vp_cell cT (N, .inr (.inr (.inr (.inr _)))))
      rw [vp_cell_q]
      refine g2.trans (congrArg some ?_)
      show arrV cT N _ = arrV cT N _
      unfold arrV
      congr 1
      apply congrArg Array.ofFn
      funext j
      exact if_pos j.2
    · exact g6 j hj
  have h2 : va_D A (mm_w T.heap.size cT cI N M) := by
    refine ⟨fun i j x y hx hy hxy => ?_, fun i x hx => ?_⟩
    · rcases mm_w_at hx with ⟨q1, rfl⟩ | ⟨j1, q1, hj1, rfl⟩
      · rcases mm_w_at hy with ⟨q2, rfl⟩ | ⟨j2, q2, hj2, rfl⟩
        · omega
        · have h9 : T.heap.size = T.heap.size + 1 + j2 := hxy
          omega
      · rcases mm_w_at hy with ⟨q2, rfl⟩ | ⟨j2, q2, hj2, rfl⟩
        · have h9 : T.heap.size + 1 + j1 = T.heap.size := hxy
          omega
        · have h9 : T.heap.size + 1 + j1 = T.heap.size + 1 + j2 := hxy
          omega
    · rcases mm_w_at hx with ⟨q1, rfl⟩ | ⟨j1, q1, hj1, rfl⟩
      · exact hA _ hS.1
      · exact hA _ (Nat.le_trans hS.1 (by show T.heap.size ≤ T.heap.size + 1 + j1; omega))
  have h3 : ∀ (i j : Nat) (x y : Nat × va_E), ws[i]? = some x → (mm_w T.heap.size cT cI N M)[j]? = some y → x.1 ≠ y.1 := by
    intro i j x y hx hy
    have h9 := hsz i x hx
    rcases mm_w_at hy with ⟨q1, rfl⟩ | ⟨j1, q1, hj1, rfl⟩
    · exact Nat.ne_of_lt h9
    · show x.1 ≠ T.heap.size + 1 + j1
      omega
  have h4 : va_S A H0 (mm_t (T.setVm vm₁) cT cI N M N).heap (locs ++ mm_l T.heap.size N) := by
    refine ⟨Nat.le_trans hS.1 (by rw [g1]; show T.heap.size ≤ T.heap.size + 1 + N; omega), fun x h1 h2 => (g5 x (Nat.lt_of_lt_of_le h1 hS.1)).trans (hS.2.1 x h1 h2), fun x hx => ?_⟩
    rcases List.mem_append.mp hx with h | h
    · exact hS.2.2 x h
    · obtain ⟨j, -, rfl⟩ := List.mem_map.mp h
      exact hA _ hS.1
  obtain ⟨t, a1, b1⟩ := kk T.heap.size cT cI (mm_t (T.setVm vm₁) cT cI N M N).heap _ hnT hnI ((hP.kept (fun i x hx => g5 x.1 (hsz i x hx))).app h1) (hD.app h2 h3) h4 _ rfl X'
  exact ⟨t, st t a1, b1⟩
end MM1
end
