theorem wm_12 : Cond.initialized RJ0 ∈ gBIG := gm (List.mem_of_getElem? (i := 66) (by decide +kernel)) (by decide +kernel)
theorem wm_13 : Cond.initialized RJ1 ∈ gBIG := gm (List.mem_of_getElem? (i := 67) (by decide +kernel)) (by decide +kernel)
theorem wm_14 : Cond.initialized RJ3 ∈ gBIG := gm (List.mem_of_getElem? (i := 68) (by decide +kernel)) (by decide +kernel)
theorem wm_367 : Cond.methodLink RJ0 335 yJ0_coder_7d493 ∈ gBIG := gm (List.mem_of_getElem? (i := 421) (by decide +kernel)) (by decide +kernel)
theorem wm_368 : Cond.instanceMethod yJ0_coder_7d493 ∈ gBIG := gm (List.mem_of_getElem? (i := 422) (by decide +kernel)) (by decide +kernel)
theorem wm_369 : Cond.selects RJ0 yJ0_coder_7d493 yJ0_coder_7d493 ∈ gBIG := gm (List.mem_of_getElem? (i := 423) (by decide +kernel)) (by decide +kernel)
theorem wm_370 : Cond.code yJ0_coder_7d493 cJ0_coder_7d493 1 (some .byte) ∈ gBIG := gm (List.mem_of_getElem? (i := 424) (by decide +kernel)) (by decide +kernel)
theorem wm_371 : Cond.fieldLink RJ0 38 "java/lang/String" "COMPACT_STRINGS" "Z" ∈ gBIG := gm (List.mem_of_getElem? (i := 425) (by decide +kernel)) (by decide +kernel)
theorem wm_377 : Cond.methodLink RJ0 492 yJ0_isLatin1_aae02 ∈ gBIG := gm (List.mem_of_getElem? (i := 431) (by decide +kernel)) (by decide +kernel)
theorem wm_378 : Cond.instanceMethod yJ0_isLatin1_aae02 ∈ gBIG := gm (List.mem_of_getElem? (i := 432) (by decide +kernel)) (by decide +kernel)
theorem wm_379 : Cond.selects RJ0 yJ0_isLatin1_aae02 yJ0_isLatin1_aae02 ∈ gBIG := gm (List.mem_of_getElem? (i := 433) (by decide +kernel)) (by decide +kernel)
theorem wm_380 : Cond.code yJ0_isLatin1_aae02 cJ0_isLatin1_aae02 1 (some .boolean) ∈ gBIG := gm (List.mem_of_getElem? (i := 434) (by decide +kernel)) (by decide +kernel)
theorem wm_381 : Cond.methodLink RJ0 495 yJ1_charAt_3b067 ∈ gBIG := gm (List.mem_of_getElem? (i := 435) (by decide +kernel)) (by decide +kernel)
theorem wm_382 : Cond.static yJ1_charAt_3b067 ∈ gBIG := gm (List.mem_of_getElem? (i := 436) (by decide +kernel)) (by decide +kernel)
theorem wm_383 : Cond.code yJ1_charAt_3b067 cJ1_charAt_3b067 2 (some .char) ∈ gBIG := gm (List.mem_of_getElem? (i := 437) (by decide +kernel)) (by decide +kernel)
theorem wm_384 : Cond.methodLink RJ1 9 yJ0_checkIndex_df160 ∈ gBIG := gm (List.mem_of_getElem? (i := 438) (by decide +kernel)) (by decide +kernel)
theorem wm_385 : Cond.static yJ0_checkIndex_df160 ∈ gBIG := gm (List.mem_of_getElem? (i := 439) (by decide +kernel)) (by decide +kernel)
theorem wm_386 : Cond.code yJ0_checkIndex_df160 cJ0_checkIndex_df160 2 none ∈ gBIG := gm (List.mem_of_getElem? (i := 440) (by decide +kernel)) (by decide +kernel)
theorem wm_387 : Cond.fieldLink RJ0 1053 "jdk/internal/util/Preconditions" "SIOOBE_FORMATTER" "Ljava/util/function/BiFunction;" ∈ gBIG := gm (List.mem_of_getElem? (i := 441) (by decide +kernel)) (by decide +kernel)
theorem wm_389 : Cond.methodLink RJ0 1059 yJ3_checkIndex_8e157 ∈ gBIG := gm (List.mem_of_getElem? (i := 443) (by decide +kernel)) (by decide +kernel)
theorem wm_390 : Cond.static yJ3_checkIndex_8e157 ∈ gBIG := gm (List.mem_of_getElem? (i := 444) (by decide +kernel)) (by decide +kernel)
theorem wm_391 : Cond.code yJ3_checkIndex_8e157 cJ3_checkIndex_8e157 3 (some .int) ∈ gBIG := gm (List.mem_of_getElem? (i := 445) (by decide +kernel)) (by decide +kernel)
theorem wm_1297 : Cond.fieldLink RJ0 9 "java/lang/String" "value" "[B" ∈ gBIG := gm (List.mem_of_getElem? (i := 1351) (by decide +kernel)) (by decide +kernel)
theorem wm_1298 : Cond.fieldLink RJ0 15 "java/lang/String" "coder" "B" ∈ gBIG := gm (List.mem_of_getElem? (i := 1352) (by decide +kernel)) (by decide +kernel)
/-! Strings by their numbers 0 .. 11, and two static rows, of the start state; contracts gCS that hold them; the JDK's own methods -/
def xLen : List Nat := [5, 5, 6, 2, 3, 3, 5, 4, 6, 4, 3, 5]
def xB : List (List Int) := [[102, 97, 108, 108, 115], [116, 97, 107, 101, 115], [99, 108, 111, 115, 101, 115], [111, 114], [97, 110, 100], [110, 111, 116], [112, 108, 97, 99, 101], [109, 111, 114, 101], [98, 101, 115, 105, 100, 101], [103, 97, 112, 115], [101, 110, 100], [114, 101, 97, 99, 104]]
def xByt : List (List Int32) := xB.map (fun l => l.map Int32.ofInt)
def xTx : List String := ["falls", "takes", "closes", "or", "and", "not", "place", "more", "beside", "gaps", "end", "reach"]
def xKd : List Int := [-1, 0, 0, 1, 2, 0]
def xlen (i : Int) : Int := ((xLen.getD i.toNat 0 : Nat) : Int)
def xch (i k : Int) : Int := (xB.getD i.toNat []).getD k.toNat 0
theorem xlen_rg : ∀ i : Nat, i < 12 → 2 ≤ xlen (i : Int) ∧ xlen (i : Int) ≤ 6 := by decide +kernel
theorem xch_rg : ∀ i : Nat, i < 12 → ∀ k : Nat, k < 6 → 0 ≤ xch (i : Int) (k : Int) ∧ xch (i : Int) (k : Int) ≤ 122 := by decide +kernel
theorem xby_all : ∀ i : Nat, i < 12 → ∀ k : Nat, k < 6 → (((xByt.getD i []).getD k 0 &&& 255).toUInt32 % 65536).toInt32 = Int32.ofInt (xch (i : Int) (k : Int)) ∧ narrow .char (.int (Int32.ofInt (xch (i : Int) (k : Int)))) = .int (Int32.ofInt (xch (i : Int) (k : Int))) := by decide +kernel
theorem ishr_0 {x : Int} (h : in32 x) : ishr x 0 = x := by
  unfold ishr
  have e : (Int32.ofInt 0 &&& 31) = 0 := by decide
  rw [e, Int32.shiftRight_zero]
  exact Int32.toInt_ofInt_of_le h.1 h.2
theorem xlen_lt (k : Nat) (hk : k < 12) : xLen.getD k 0 < 2147483648 := by
  have h := xlen_rg k hk
  have e : xlen (k : Int) = ((xLen.getD k 0 : Nat) : Int) := rfl
  omega
def XS (adK adV : Nat → Nat) (kA : Nat) (A : Nat → Prop) (U : State) : Prop :=
  (∀ i : Nat, i < 12 → vk_R RX3 (113 + 2 * i) (xTx.getD i "") (adK i) U) ∧ vk_S 12 xLen xByt adK adV A U U.heap ∧ va_Z "java/lang/String" "COMPACT_STRINGS" "Z" (.int 1) A U U.heap ∧ va_Zq "jdk/internal/util/Preconditions" "SIOOBE_FORMATTER" "Ljava/util/function/BiFunction;" A U U.heap ∧ va_Z "AGapEveryTwenty" "KIND_ABOVE" "[I" (.ref kA) A U U.heap ∧ va_T .int kA 6 (fun j => .int (Int32.ofInt (xKd.getD j 0))) A U U.heap
theorem XS_calling {adK adV : Nat → Nat} {kA : Nat} {A : Nat → Prop} {U : State} {g : JFrame} {mk : MethodId} {a : Array Value} (h : XS adK adV kA A U) : XS adK adV kA A (U.calling g mk a) :=
  ⟨fun i hi => vk_R.same (u := U) rfl (h.1 i hi), vk_S.moved (u := U) (U := U.calling g mk a) (Vm.Alike.refl U.vm) h.2.1, va_Z.moved (u := U) (U := U.calling g mk a) (Vm.Alike.refl U.vm) h.2.2.1, va_Zq.moved (u := U) (U := U.calling g mk a) (Vm.Alike.refl U.vm) h.2.2.2.1, va_Z.moved (u := U) (U := U.calling g mk a) (Vm.Alike.refl U.vm) h.2.2.2.2.1, va_T.moved (u := U) (U := U.calling g mk a) (Vm.Alike.refl U.vm) h.2.2.2.2.2⟩
theorem XS_go {adK adV : Nat → Nat} {kA : Nat} {A B : Nat → Prop} {s U : State} {H : Heap} {locs : List Loc} (h : XS adK adV kA A s) (hS : va_S A s.heap H locs) (hU : U.heap = H) (hW : s.WarmedH U.vm) (hAB : ∀ q, B q → A q) : XS adK adV kA B U := by
  unfold XS
  rw [hU]
  exact ⟨fun i hi => vk_R.warm hW (h.1 i hi), ((h.2.1.kept hS.2.1).narrow hAB).moved hW.alike, ((h.2.2.1.kept hS.2.1).narrow hAB).moved hW.alike, ((h.2.2.2.1.kept hS.2.1).narrow hAB).moved hW.alike, ((h.2.2.2.2.1.kept hS.2.1).narrow hAB).moved hW.alike, ((h.2.2.2.2.2.kept hS.2.1).narrow hAB).moved hW.alike⟩
def gCS (l : Launch) (y : MethodName) (b : ByteArray) (n : Nat) (ret : Option FieldType) (fr lo : Nat) (D : va_G) (cl : List vw_C) (tys : List (ClassId × FieldType)) (wd : gMem → va_W) (lg : Nat → Bool) (kd : Int → Option Value) (rg : Int → Prop) (av : List Value) (σ : gMem) (ρ : gRes) (adK adV : Nat → Nat) (kA : Nat) : Prop := ∀ sz, Met l y (.code y b n ret :: gBIG) { frames := fr, cells := 0, slots := 0, locals := lo } (va_Pc av (fun U => (U.heap.size = sz ∧ gPre D cl tys wd lg σ U) ∧ XS adK adV kA (gA wd sz) U)) (gQ D cl wd lg (gA wd sz) kd rg ρ) 0 0 (gA wd sz)
def kS (adK : Nat → Nat) : Int → Option Value := fun z => some (.ref (adK z.toNat))
abbrev rg12 (z : Int) : Prop := 0 ≤ z ∧ z < 12
theorem gCS_of {l : Launch} {y : MethodName} {b : ByteArray} {n : Nat} {ret : Option FieldType} {fr lo : Nat} {D : va_G} {cl : List vw_C} {tys : List (ClassId × FieldType)} {wd : gMem → va_W} {lg : Nat → Bool} {kd : Int → Option Value} {rg : Int → Prop} {av : List Value} {σ : gMem} {ρ : gRes} {adK adV : Nat → Nat} {kA : Nat}
    (hy : plainName y.cls = true) (hwd : ∀ σ, (wd σ).map (·.1) = (wd (fun _ _ => 0)).map (·.1)) (hlen : (lg_sl av).length ≤ n)
    (body : ∀ (A : Nat → Prop) (p : Program) (e : Env) (R : Room) (s : State) (m : MethodId) (args : Array Value) (below : List Frame) (meth : Method) (c : Code), R = { frames := fr, cells := 0, slots := 0, locals := lo } → gE D cl tys wd A p s m args meth c b n y.cls ret → XS adK adV kA A s → gK D cl wd lg A p l e R s m args below meth c n (gQQ D cl wd lg A kd rg below args s) ρ σ 0 (lv_args 0 av) []) : gCS l y b n ret fr lo D cl tys wd lg kd rg av σ ρ adK adV kA := by
  intro sz
  refine Met.ofW (cc := b) (maxL := n) (ret := ret) hy rfl ?_
  intro p e s m args below meth c s₁ B hml hv
  obtain ⟨rfl, ⟨hsz, hP, hK, hD0, hR, hN⟩, hX⟩ := hv
  subst hsz
  have hts := atoms_spec (ws := .code y b n ret :: gBIG) B.pre
  have hE : gE D cl tys wd (gA wd s.heap.size) p s m av.toArray meth c b n y.cls ret := ⟨B.exec, B.bytes, hml, findClass_of_methodNamed B.named, fun w hw => hts w (List.mem_cons_of_mem _ hw), hK, B.notSynchronized, fun q h => Or.inr h, B.returns, hN, rfl, hwd⟩
  rw [lg_entry_eq]
  exact body (gA wd s.heap.size) p e _ s m av.toArray below meth c rfl hE hX s.heap [] _ hP (gA_D hwd hD0) va_S.rf hR (lv_entry av hlen)
section GS
variable {D : va_G} {cl : List vw_C} {tys : List (ClassId × FieldType)} {wd : gMem → va_W} {lg : Nat → Bool} {A : Nat → Prop} {p : Program} {l : Launch} {e : Env} {R : Room} {s : State} {m : MethodId} {args : Array Value} {below : List Frame} {meth : Method} {c : Code} {nL : Nat} {QQ : gRes → State → Prop} {ρ : gRes} {σ : gMem} {pc : Nat} {lv lv' : List (Nat × Value)} {st : List Value} {cc : ByteArray} {own : String} {ret : Option FieldType} {adK adV : Nat → Nat} {kA : Nat}
theorem k_getS (E : gE D cl tys wd A p s m args meth c cc nL own ret) {o n d ref : String} {index q : Nat} {v : Value} (hE : va_OF o n d v q A s s.heap) (hlink : Cond.fieldLink own index ref n d ∈ gBIG) (hsame : o = ref) (dd : decode cc pc = .ok (.getfield index, 3)) (k : gK D cl wd lg A p l e R s m args below meth c nL QQ ρ σ (pc + 3) lv (v :: st)) : gK D cl wd lg A p l e R s m args below meth c nL QQ ρ σ pc lv (.ref q :: st) := fun H locs ls hP hD hS hR hl => vk_getf E.1 E.2.1 hE hS E.2.2.2.1 (E.2.2.2.2.1 _ hlink) (fun x hx => by rw [← hsame]; exact hx) dd (k H locs ls hP hD hS hR hl)
theorem k_gets (E : gE D cl tys wd A p s m args meth c cc nL own ret) {C n d ref : String} {index : Nat} {v : Value} (hZ : va_Z C n d v A s s.heap) (hlink : Cond.fieldLink own index ref n d ∈ gBIG) (hsame : C = ref) (dd : decode cc pc = .ok (.getstatic index, 3)) (k : gK D cl wd lg A p l e R s m args below meth c nL QQ ρ σ (pc + 3) lv (v :: st)) : gK D cl wd lg A p l e R s m args below meth c nL QQ ρ σ pc lv st := fun H locs ls hP hD hS hR hl => va_gets E.1 E.2.1 hZ hS E.2.2.2.1 (E.2.2.2.2.1 _ hlink) (fun x hx => by rw [← hsame]; exact hx) dd (k H locs ls hP hD hS hR hl)
theorem k_tlen (E : gE D cl tys wd A p s m args meth c cc nL own ret) {ty : FieldType} {t N : Nat} {f : Nat → Value} {v : Int} (hT : va_T ty t N f A s s.heap) (hv : Int32.ofNat N = Int32.ofInt v) (dd : decode cc pc = .ok (.arraylength, 1)) (k : gK D cl wd lg A p l e R s m args below meth c nL QQ ρ σ (pc + 1) lv (gI v :: st)) : gK D cl wd lg A p l e R s m args below meth c nL QQ ρ σ pc lv (.ref t :: st) := fun H locs ls hP hD hS hR hl => va_tlen E.1 E.2.1 hT hS hv dd (k H locs ls hP hD hS hR hl)
theorem k_ti (E : gE D cl tys wd A p s m args meth c cc nL own ret) {t N : Nat} {f : Nat → Value} {i : Int} {v : Value} (hT : va_T .int t N f A s s.heap) (hN : N < 2147483648) (h0 : 0 ≤ i) (h1 : i < N) (hv : f i.toNat = v) (dd : decode cc pc = .ok (.iaload, 1)) (k : gK D cl wd lg A p l e R s m args below meth c nL QQ ρ σ (pc + 1) lv (v :: st)) : gK D cl wd lg A p l e R s m args below meth c nL QQ ρ σ pc lv (gI i :: .ref t :: st) := by
  intro H locs ls hP hD hS hR hl
  have e9 : (Int32.ofInt i).toNatClampNeg = i.toNat := by have := i_cl h0 (by omega); omega
  exact va_ti E.1 E.2.1 hT hS (i_in h0 h1 hN) (by rw [e9]; exact hv) dd (k H locs ls hP hD hS hR hl)
theorem k_tb (E : gE D cl tys wd A p s m args meth c cc nL own ret) {t N : Nat} {f : Nat → Value} {i : Int} {v : Value} (hT : va_T .byte t N f A s s.heap) (hN : N < 2147483648) (h0 : 0 ≤ i) (h1 : i < N) (hv : f i.toNat = v) (dd : decode cc pc = .ok (.baload, 1)) (k : gK D cl wd lg A p l e R s m args below meth c nL QQ ρ σ (pc + 1) lv (v :: st)) : gK D cl wd lg A p l e R s m args below meth c nL QQ ρ σ pc lv (gI i :: .ref t :: st) := by
  intro H locs ls hP hD hS hR hl
  have e9 : (Int32.ofInt i).toNatClampNeg = i.toNat := by have := i_cl h0 (by omega); omega
  exact va_tb E.1 E.2.1 hT hS (i_in h0 h1 hN) (by rw [e9]; exact hv) dd (k H locs ls hP hD hS hR hl)
theorem k_ldcS (E : gE D cl tys wd A p s m args meth c cc nL own ret) {tx : String} {index q : Nat} (hZ : vk_R own index tx q s) (dd : decode cc pc = .ok (.ldc index, 2)) (k : gK D cl wd lg A p l e R s m args below meth c nL QQ ρ σ (pc + 2) lv (.ref q :: st)) : gK D cl wd lg A p l e R s m args below meth c nL QQ ρ σ pc lv st := fun H locs ls hP hD hS hR hl => va_ldcS E.1 E.2.1 E.2.2.2.1 hZ dd (k H locs ls hP hD hS hR hl)
theorem k_i2c (E : gE D cl tys wd A p s m args meth c cc nL own ret) {x v : Int} (hv : ((Int32.ofInt x).toUInt32 % 65536).toInt32 = Int32.ofInt v) (dd : decode cc pc = .ok (.i2c, 1)) (k : gK D cl wd lg A p l e R s m args below meth c nL QQ ρ σ (pc + 1) lv (gI v :: st)) : gK D cl wd lg A p l e R s m args below meth c nL QQ ρ σ pc lv (gI x :: st) := fun H locs ls hP hD hS hR hl => lv_i2c E.1 E.2.1 dd hv (k H locs ls hP hD hS hR hl)
theorem k_nret {ty : FieldType} (E : gE D cl tys wd A p s m args meth c cc nL own (some ty)) {z : Int} {rg : Int → Prop} (d : decode cc pc = .ok (.ireturn, 1)) (hn : narrow ty (gI z) = gI z) (hr : rg z) : gK D cl wd lg A p l e R s m args below meth c nL (gQQ D cl wd lg A kI rg below args s) (z, σ) σ pc lv [gI z] := fun H locs ls hP hD hS hR hl => W.zret E.1 E.2.1 E.2.2.2.2.2.2.2.2.1 hn (fun t ht hW => ⟨rfl, hr, by rw [ht]; exact hP, hD, hR, hS.F ht⟩) hS.2.2 d E.2.2.2.2.2.2.1
theorem k_aret (E : gE D cl tys wd A p s m args meth c cc nL own (some (.object "java/lang/String"))) {z : Int} (d : decode cc pc = .ok (.areturn, 1)) (hr : rg12 z) : gK D cl wd lg A p l e R s m args below meth c nL (gQQ D cl wd lg A (kS adK) rg12 below args s) (z, σ) σ pc lv [.ref (adK z.toNat)] := fun H locs ls hP hD hS hR hl => W.aret E.1 E.2.1 E.2.2.2.2.2.2.2.2.1 (Or.inl ⟨_, rfl⟩) (Or.inr ⟨_, rfl⟩) (fun t ht hW => ⟨rfl, hr, by rw [ht]; exact hP, hD, hR, hS.F ht⟩) hS.2.2 d E.2.2.2.2.2.2.1
theorem k_callVX (E : gE D cl tys wd A p s m args meth c cc nL own ret) (HX : XS adK adV kA A s) {y : MethodName} {b : ByteArray} {n fr lo index np : Nat} {rt : Option FieldType} {kd : Int → Option Value} {rg : Int → Prop} {ρ1 : gRes} {As : List Value} {a : Nat} {C : String} {q0 ci N : Nat} {T : u_T} {fs : List Value} (ha : (wd σ)[q0]? = some (a, .inr (ci, fs))) (hc : cl[ci]? = some (C, T, N)) (hC : gCS l y b n rt fr lo D cl tys wd lg kd rg (.ref a :: As) σ ρ1 adK adV kA) (hcode : Cond.code y b n rt ∈ gBIG) (hini : Cond.initialized y.cls ∈ gBIG) (hlink : Cond.methodLink own index y ∈ gBIG) (hinst : Cond.instanceMethod y ∈ gBIG) (hsel : Cond.selects C y y ∈ gBIG) (hy : y.cls ≠ "java/lang/invoke/MethodHandle" ∧ y.cls ≠ "java/lang/invoke/VarHandle" ∧ (parseMethodDescriptor y.desc).map (fun d => d.parameters.length) = some np) (hR1 : fr + 1 ≤ R.frames ∧ 8 + (n + 11) + lo ≤ R.locals) (hn : As.length = np) (hst : (st.map fun v => v.category).sum ≤ 8) (d : decode cc pc = .ok (.invokevirtual index, 3)) (kk : ∀ (r : Int) (σ1 : gMem), ρ1 = (r, σ1) → rg r → gK D cl wd lg A p l e R s m args below meth c nL QQ ρ σ1 (pc + 3) lv ((kd r).toList ++ st)) : gK D cl wd lg A p l e R s m args below meth c nL QQ ρ σ pc lv (As.reverse ++ .ref a :: st) := by
  intro H locs ls hP hD hS hR hl
  have hws : ∀ w ∈ (Cond.code y b n rt :: gBIG), w ∈ gBIG := fun w hw => (List.mem_cons.mp hw).elim (fun e => by rw [e]; exact hcode) id
  have hgood : GoodIn gBIG (Cond.code y b n rt :: gBIG) := fun w hw => ⟨hws w hw, good_of_word (List.mem_filter.mp (hws w hw)).2⟩
  have hs := fun w hw => E.2.2.2.2.1 w hw
  have hAe : A = gA wd s.heap.size := E.2.2.2.2.2.2.2.2.2.2.1
  have hA : ∀ q, gA wd H.size q → A q := fun q h => by rw [hAe]; exact gA_mono hS.1 h
  refine g_after E hS hl (va_runV (b := a) (As := As) (rest := st) ⟨E.1, E.2.1, E.2.2.1, E.2.2.2.1, E.2.2.2.2.1⟩ (hC H.size) (C := C) (n := np) (bytes := b) (maxL := n) (ret := rt) ⟨callB_of np E.2.2.2.2.1 hgood rfl rfl rfl (hs _ hini) (hs _ hlink) hy hR1, hs _ hinst, hs _ hsel⟩ ⟨fun a U g mk q => ⟨q.1, ⟨q.2.1.1, gPre_moved q.2.1.2⟩, XS_calling q.2.2⟩, va_recv E.2.2.2.2.2.1 hP hc ha, fun U hU hW => ⟨rfl, g_pre E hP hD hR hU hW, XS_go HX hS hU hW hA⟩⟩ rfl hn hl.1 rfl (lv_room hst) d ⟨Nat.zero_le _, Nat.zero_le _⟩) kk
theorem k_callVS (E : gE D cl tys wd A p s m args meth c cc nL own ret) (HX : XS adK adV kA A s) {y : MethodName} {b : ByteArray} {n fr lo index np : Nat} {rt : Option FieldType} {kd : Int → Option Value} {rg : Int → Prop} {ρ1 : gRes} {As : List Value} {a : Nat} {C : String} (hrec : ∀ (H : Heap) (locs : List Loc), va_S A s.heap H locs → ∃ cell : Cell, H[a]? = some cell ∧ cell.vm.isStatics = false ∧ s.vm.findClass C = some cell.cls) (hC : gCS l y b n rt fr lo D cl tys wd lg kd rg (.ref a :: As) σ ρ1 adK adV kA) (hcode : Cond.code y b n rt ∈ gBIG) (hini : Cond.initialized y.cls ∈ gBIG) (hlink : Cond.methodLink own index y ∈ gBIG) (hinst : Cond.instanceMethod y ∈ gBIG) (hsel : Cond.selects C y y ∈ gBIG) (hy : y.cls ≠ "java/lang/invoke/MethodHandle" ∧ y.cls ≠ "java/lang/invoke/VarHandle" ∧ (parseMethodDescriptor y.desc).map (fun d => d.parameters.length) = some np) (hR1 : fr + 1 ≤ R.frames ∧ 8 + (n + 11) + lo ≤ R.locals) (hn : As.length = np) (hst : (st.map fun v => v.category).sum ≤ 8) (d : decode cc pc = .ok (.invokevirtual index, 3)) (kk : ∀ (r : Int) (σ1 : gMem), ρ1 = (r, σ1) → rg r → gK D cl wd lg A p l e R s m args below meth c nL QQ ρ σ1 (pc + 3) lv ((kd r).toList ++ st)) : gK D cl wd lg A p l e R s m args below meth c nL QQ ρ σ pc lv (As.reverse ++ .ref a :: st) := by
  intro H locs ls hP hD hS hR hl
  have hws : ∀ w ∈ (Cond.code y b n rt :: gBIG), w ∈ gBIG := fun w hw => (List.mem_cons.mp hw).elim (fun e => by rw [e]; exact hcode) id
  have hgood : GoodIn gBIG (Cond.code y b n rt :: gBIG) := fun w hw => ⟨hws w hw, good_of_word (List.mem_filter.mp (hws w hw)).2⟩
  have hs := fun w hw => E.2.2.2.2.1 w hw
  have hAe : A = gA wd s.heap.size := E.2.2.2.2.2.2.2.2.2.2.1
  have hA : ∀ q, gA wd H.size q → A q := fun q h => by rw [hAe]; exact gA_mono hS.1 h
  refine g_after E hS hl (va_runV (b := a) (As := As) (rest := st) ⟨E.1, E.2.1, E.2.2.1, E.2.2.2.1, E.2.2.2.2.1⟩ (hC H.size) (C := C) (n := np) (bytes := b) (maxL := n) (ret := rt) ⟨callB_of np E.2.2.2.2.1 hgood rfl rfl rfl (hs _ hini) (hs _ hlink) hy hR1, hs _ hinst, hs _ hsel⟩ ⟨fun a U g mk q => ⟨q.1, ⟨q.2.1.1, gPre_moved q.2.1.2⟩, XS_calling q.2.2⟩, hrec H locs hS, fun U hU hW => ⟨rfl, g_pre E hP hD hR hU hW, XS_go HX hS hU hW hA⟩⟩ rfl hn hl.1 rfl (lv_room hst) d ⟨Nat.zero_le _, Nat.zero_le _⟩) kk
theorem k_callSX (E : gE D cl tys wd A p s m args meth c cc nL own ret) (HX : XS adK adV kA A s) {y : MethodName} {b : ByteArray} {n fr lo index np : Nat} {rt : Option FieldType} {kd : Int → Option Value} {rg : Int → Prop} {ρ1 : gRes} {As : List Value} (hC : gCS l y b n rt fr lo D cl tys wd lg kd rg As σ ρ1 adK adV kA) (hcode : Cond.code y b n rt ∈ gBIG) (hini : Cond.initialized y.cls ∈ gBIG) (hlink : Cond.methodLink own index y ∈ gBIG) (hstat : Cond.static y ∈ gBIG) (hy : y.cls ≠ "java/lang/invoke/MethodHandle" ∧ y.cls ≠ "java/lang/invoke/VarHandle" ∧ (parseMethodDescriptor y.desc).map (fun d => d.parameters.length) = some np) (hR1 : fr + 1 ≤ R.frames ∧ 8 + (n + 11) + lo ≤ R.locals) (hn : As.length = np) (hst : (st.map fun v => v.category).sum ≤ 8) (d : decode cc pc = .ok (.invokestatic index, 3)) (kk : ∀ (r : Int) (σ1 : gMem), ρ1 = (r, σ1) → rg r → gK D cl wd lg A p l e R s m args below meth c nL QQ ρ σ1 (pc + 3) lv ((kd r).toList ++ st)) : gK D cl wd lg A p l e R s m args below meth c nL QQ ρ σ pc lv (As.reverse ++ st) := by
  intro H locs ls hP hD hS hR hl
  have hws : ∀ w ∈ (Cond.code y b n rt :: gBIG), w ∈ gBIG := fun w hw => (List.mem_cons.mp hw).elim (fun e => by rw [e]; exact hcode) id
  have hgood : GoodIn gBIG (Cond.code y b n rt :: gBIG) := fun w hw => ⟨hws w hw, good_of_word (List.mem_filter.mp (hws w hw)).2⟩
  have hs := fun w hw => E.2.2.2.2.1 w hw
  have hAe : A = gA wd s.heap.size := E.2.2.2.2.2.2.2.2.2.2.1
  have hA : ∀ q, gA wd H.size q → A q := fun q h => by rw [hAe]; exact gA_mono hS.1 h
  refine g_after E hS hl (va_runS (As := As) (rest := st) ⟨E.1, E.2.1, E.2.2.1, E.2.2.2.1, E.2.2.2.2.1⟩ (hC H.size) (n := np) (bytes := b) (maxL := n) (ret := rt) ⟨callB_of np E.2.2.2.2.1 hgood rfl rfl rfl (hs _ hini) (hs _ hlink) hy hR1, hs _ hstat⟩ ⟨fun a U g mk q => ⟨q.1, ⟨q.2.1.1, gPre_moved q.2.1.2⟩, XS_calling q.2.2⟩, fun U hU hW => ⟨rfl, g_pre E hP hD hR hU hW, XS_go HX hS hU hW hA⟩⟩ rfl hn hl.1 rfl (lv_room hst) d ⟨Nat.zero_le _, Nat.zero_le _⟩) kk
end GS
set_option maxRecDepth 100000 in
set_option maxHeartbeats 4000000 in
theorem c_J0_coder_7d493 (l : Launch) (D : va_G) (a : Nat → Nat) (cI cJ cS cT : ClassId) (adK adV : Nat → Nat) (kA : Nat) (s0 : gMem) (k : Nat) (hk : k < 12) : gCS l yJ0_coder_7d493 cJ0_coder_7d493 1 (some .byte) 1 64 D vwCl (gT cI cJ cS cT) (wdX a cI cJ cS cT) lgX kI (fun z => z = 0) [.ref (adK k)] s0 (0, s0) adK adV kA := by
  refine gCS_of (by decide +kernel) (hwdX a cI cJ cS cT) (Nat.le_of_ble_eq_true rfl) ?_
  intro A p e R s m args below meth c hR E HX
  subst hR
  refine k_gets (pc := 0) E HX.2.2.1 wm_371 rfl dJ0_coder_7d493_0 ?_
  refine k_if_eq_f (pc := 3) (tgt := 13) (x := 1) E ⟨by decide, by decide⟩ dJ0_coder_7d493_3 (by decide) (by decide) ?_
  refine k_aloadn (pc := 6) E 0 dJ0_coder_7d493_6 rfl rfl ?_
  refine k_getS (pc := 7) E (HX.2.1.1 k hk).2.1 wm_1298 rfl dJ0_coder_7d493_7 ?_
  refine k_goto (pc := 10) (tgt := 14) E dJ0_coder_7d493_10 (by decide) ?_
  exact k_nret (pc := 14) (z := 0) E dJ0_coder_7d493_14 rfl rfl
set_option maxRecDepth 100000 in
set_option maxHeartbeats 4000000 in
theorem c_J0_isLatin1_aae02 (l : Launch) (D : va_G) (a : Nat → Nat) (cI cJ cS cT : ClassId) (adK adV : Nat → Nat) (kA : Nat) (s0 : gMem) (k : Nat) (hk : k < 12) : gCS l yJ0_isLatin1_aae02 cJ0_isLatin1_aae02 1 (some .boolean) 1 64 D vwCl (gT cI cJ cS cT) (wdX a cI cJ cS cT) lgX kI (fun z => z = 1) [.ref (adK k)] s0 (1, s0) adK adV kA := by
  refine gCS_of (by decide +kernel) (hwdX a cI cJ cS cT) (Nat.le_of_ble_eq_true rfl) ?_
  intro A p e R s m args below meth c hR E HX
  subst hR
  refine k_gets (pc := 0) E HX.2.2.1 wm_371 rfl dJ0_isLatin1_aae02_0 ?_
  refine k_if_eq_f (pc := 3) (tgt := 17) (x := 1) E ⟨by decide, by decide⟩ dJ0_isLatin1_aae02_3 (by decide) (by decide) ?_
  refine k_aloadn (pc := 6) E 0 dJ0_isLatin1_aae02_6 rfl rfl ?_
  refine k_getS (pc := 7) E (HX.2.1.1 k hk).2.1 wm_1298 rfl dJ0_isLatin1_aae02_7 ?_
  refine k_if_ne_f (pc := 10) (tgt := 17) (x := 0) E ⟨by decide, by decide⟩ dJ0_isLatin1_aae02_10 (by decide) rfl ?_
  refine k_iconst (pc := 13) E dJ0_isLatin1_aae02_13 ?_
  refine k_goto (pc := 14) (tgt := 18) E dJ0_isLatin1_aae02_14 (by decide) ?_
  exact k_nret (pc := 18) (z := 1) E dJ0_isLatin1_aae02_18 rfl rfl
set_option maxRecDepth 100000 in
set_option maxHeartbeats 4000000 in
theorem c_J0_length_8abf5 (l : Launch) (D : va_G) (a : Nat → Nat) (cI cJ cS cT : ClassId) (adK adV : Nat → Nat) (kA : Nat) (s0 : gMem) (k : Nat) (hk : k < 12) : gCS l yJ0_length_8abf5 cJ0_length_8abf5 1 (some .int) 2 128 D vwCl (gT cI cJ cS cT) (wdX a cI cJ cS cT) lgX kI in32 [.ref (adK k)] s0 (xlen (k : Int), s0) adK adV kA := by
  refine gCS_of (by decide +kernel) (hwdX a cI cJ cS cT) (Nat.le_of_ble_eq_true rfl) ?_
  intro A p e R s m args below meth c hR E HX
  subst hR
  have hq := xlen_rg k hk
  refine k_aloadn (pc := 0) E 0 dJ0_length_8abf5_0 rfl rfl ?_
  refine k_getS (pc := 1) E (HX.2.1.1 k hk).2.2.1 wm_1297 rfl dJ0_length_8abf5_1 ?_
  refine k_tlen (pc := 4) (v := xlen (k : Int)) E (HX.2.1.1 k hk).2.2.2 rfl dJ0_length_8abf5_4 ?_
  refine k_aloadn (pc := 5) E 0 dJ0_length_8abf5_5 rfl rfl ?_
  refine k_callVS (pc := 6) (np := 0) (As := []) (st := [gI (xlen (k : Int))]) E HX (C := "java/lang/String") (fun H locs hS => vk_recv HX.2.1 hk hS) (c_J0_coder_7d493 l D a cI cJ cS cT adK adV kA s0 k hk) wm_370 wm_12 wm_367 wm_368 wm_369 (by decide +kernel) ⟨by decide, by decide⟩ rfl (Nat.le_of_ble_eq_true rfl) dJ0_length_8abf5_6 (ro_kk (fun hr6 => ?_))
  refine k_st (st' := [gI 0, gI (xlen (k : Int))]) rfl ?_
  refine k_ishr (pc := 9) E dJ0_length_8abf5_9 ?_
  refine k_st (st' := [gI (xlen (k : Int))]) (by rw [ishr_0]; omega) ?_
  exact k_iret (pc := 10) E dJ0_length_8abf5_10 (by omega)
set_option maxRecDepth 100000 in
set_option maxHeartbeats 4000000 in
theorem c_J3_checkIndex_8e157_n (l : Launch) (D : va_G) (a : Nat → Nat) (cI cJ cS cT : ClassId) (adK adV : Nat → Nat) (kA : Nat) (s0 : gMem) (i n : Int) (hi : 0 ≤ i) (hn : i < n) (hn2 : in32 n) : gCS l yJ3_checkIndex_8e157 cJ3_checkIndex_8e157 3 (some .int) 1 64 D vwCl (gT cI cJ cS cT) (wdX a cI cJ cS cT) lgX kI in32 [gI i, gI n, .null] s0 (i, s0) adK adV kA := by
  refine gCS_of (by decide +kernel) (hwdX a cI cJ cS cT) (Nat.le_of_ble_eq_true rfl) ?_
  intro A p e R s m args below meth c hR E HX
  subst hR
  refine k_iloadn (pc := 0) E 0 dJ3_checkIndex_8e157_0 rfl rfl ?_
  refine k_if_lt_f (pc := 1) (tgt := 9) E (by omega) dJ3_checkIndex_8e157_1 (by decide) (by omega) ?_
  refine k_iloadn (pc := 4) E 0 dJ3_checkIndex_8e157_4 rfl rfl ?_
  refine k_iloadn (pc := 5) E 1 dJ3_checkIndex_8e157_5 rfl rfl ?_
  refine k_icmp_lt_t (pc := 6) (tgt := 16) E (by omega) hn2 dJ3_checkIndex_8e157_6 (by decide) hn ?_
  refine k_iloadn (pc := 16) E 0 dJ3_checkIndex_8e157_16 rfl rfl ?_
  exact k_iret (pc := 17) E dJ3_checkIndex_8e157_17 (by omega)
set_option maxRecDepth 100000 in
set_option maxHeartbeats 4000000 in
theorem c_J3_checkIndex_8e157_r (l : Launch) (D : va_G) (a : Nat → Nat) (cI cJ cS cT : ClassId) (adK adV : Nat → Nat) (kA : Nat) (s0 : gMem) (i n : Int) (hi : 0 ≤ i) (hn : i < n) (hn2 : in32 n) (t : Nat) : gCS l yJ3_checkIndex_8e157 cJ3_checkIndex_8e157 3 (some .int) 1 64 D vwCl (gT cI cJ cS cT) (wdX a cI cJ cS cT) lgX kI in32 [gI i, gI n, .ref t] s0 (i, s0) adK adV kA := by
  refine gCS_of (by decide +kernel) (hwdX a cI cJ cS cT) (Nat.le_of_ble_eq_true rfl) ?_
  intro A p e R s m args below meth c hR E HX
  subst hR
  refine k_iloadn (pc := 0) E 0 dJ3_checkIndex_8e157_0 rfl rfl ?_
  refine k_if_lt_f (pc := 1) (tgt := 9) E (by omega) dJ3_checkIndex_8e157_1 (by decide) (by omega) ?_
  refine k_iloadn (pc := 4) E 0 dJ3_checkIndex_8e157_4 rfl rfl ?_
  refine k_iloadn (pc := 5) E 1 dJ3_checkIndex_8e157_5 rfl rfl ?_
  refine k_icmp_lt_t (pc := 6) (tgt := 16) E (by omega) hn2 dJ3_checkIndex_8e157_6 (by decide) hn ?_
  refine k_iloadn (pc := 16) E 0 dJ3_checkIndex_8e157_16 rfl rfl ?_
  exact k_iret (pc := 17) E dJ3_checkIndex_8e157_17 (by omega)
set_option maxRecDepth 100000 in
set_option maxHeartbeats 4000000 in
theorem c_J0_checkIndex_df160 (l : Launch) (D : va_G) (a : Nat → Nat) (cI cJ cS cT : ClassId) (adK adV : Nat → Nat) (kA : Nat) (s0 : gMem) (i n : Int) (hi : 0 ≤ i) (hn : i < n) (hn2 : in32 n) : gCS l yJ0_checkIndex_df160 cJ0_checkIndex_df160 2 none 2 128 D vwCl (gT cI cJ cS cT) (wdX a cI cJ cS cT) lgX kV rgV [gI i, gI n] s0 (0, s0) adK adV kA := by
  refine gCS_of (by decide +kernel) (hwdX a cI cJ cS cT) (Nat.le_of_ble_eq_true rfl) ?_
  intro A p e R s m args below meth c hR E HX
  subst hR
  refine k_iloadn (pc := 0) E 0 dJ0_checkIndex_df160_0 rfl rfl ?_
  refine k_iloadn (pc := 1) E 1 dJ0_checkIndex_df160_1 rfl rfl ?_
  rcases HX.2.2.2.1 with hz | ⟨t, hz⟩
  · refine k_gets (pc := 2) E hz wm_387 rfl dJ0_checkIndex_df160_2 ?_
    refine k_callSX (pc := 5) (np := 3) (As := [gI i, gI n, .null]) (st := []) E HX (c_J3_checkIndex_8e157_n l D a cI cJ cS cT adK adV kA s0 i n hi hn hn2) wm_391 wm_14 wm_389 wm_390 (by decide +kernel) ⟨by decide, by decide⟩ rfl (Nat.le_of_ble_eq_true rfl) dJ0_checkIndex_df160_5 (ro_kk (fun hr5 => ?_))
    refine k_pop (pc := 8) (v := gI i) E dJ0_checkIndex_df160_8 rfl ?_
    exact k_vret (pc := 9) E dJ0_checkIndex_df160_9
  · refine k_gets (pc := 2) E hz wm_387 rfl dJ0_checkIndex_df160_2 ?_
    refine k_callSX (pc := 5) (np := 3) (As := [gI i, gI n, .ref t]) (st := []) E HX (c_J3_checkIndex_8e157_r l D a cI cJ cS cT adK adV kA s0 i n hi hn hn2 t) wm_391 wm_14 wm_389 wm_390 (by decide +kernel) ⟨by decide, by decide⟩ rfl (Nat.le_of_ble_eq_true rfl) dJ0_checkIndex_df160_5 (ro_kk (fun hr5 => ?_))
    refine k_pop (pc := 8) (v := gI i) E dJ0_checkIndex_df160_8 rfl ?_
    exact k_vret (pc := 9) E dJ0_checkIndex_df160_9
set_option maxRecDepth 100000 in
set_option maxHeartbeats 4000000 in
theorem c_J1_charAt_3b067 (l : Launch) (D : va_G) (a : Nat → Nat) (cI cJ cS cT : ClassId) (adK adV : Nat → Nat) (kA : Nat) (s0 : gMem) (k : Nat) (hk : k < 12) (i : Int) (hi : 0 ≤ i) (hn : i < xlen (k : Int)) : gCS l yJ1_charAt_3b067 cJ1_charAt_3b067 2 (some .char) 3 192 D vwCl (gT cI cJ cS cT) (wdX a cI cJ cS cT) lgX kI (fun z => z = (xch (k : Int) i)) [.ref (adV k), gI i] s0 ((xch (k : Int) i), s0) adK adV kA := by
  refine gCS_of (by decide +kernel) (hwdX a cI cJ cS cT) (Nat.le_of_ble_eq_true rfl) ?_
  intro A p e R s m args below meth c hR E HX
  subst hR
  have hq := xlen_rg k hk
  have hz : (i.toNat : Int) = i := by omega
  have hb := xby_all k hk i.toNat (by omega)
  rw [hz] at hb
  refine k_iloadn (pc := 0) E 1 dJ1_charAt_3b067_0 rfl rfl ?_
  refine k_aloadn (pc := 1) E 0 dJ1_charAt_3b067_1 rfl rfl ?_
  refine k_tlen (pc := 2) (v := xlen (k : Int)) E (HX.2.1.1 k hk).2.2.2 rfl dJ1_charAt_3b067_2 ?_
  refine k_callSX (pc := 3) (np := 2) (As := [gI i, gI (xlen (k : Int))]) (st := []) E HX (c_J0_checkIndex_df160 l D a cI cJ cS cT adK adV kA s0 i (xlen (k : Int)) hi hn (by omega)) wm_386 wm_12 wm_384 wm_385 (by decide +kernel) ⟨by decide, by decide⟩ rfl (Nat.le_of_ble_eq_true rfl) dJ1_charAt_3b067_3 (ro_kk (fun hr3 => ?_))
  refine k_st (st' := []) rfl ?_
  refine k_aloadn (pc := 6) E 0 dJ1_charAt_3b067_6 rfl rfl ?_
  refine k_iloadn (pc := 7) E 1 dJ1_charAt_3b067_7 rfl rfl ?_
  refine k_tb (pc := 8) (v := gI (((xByt.getD k []).getD i.toNat 0).toInt)) E (HX.2.1.1 k hk).2.2.2 (xlen_lt k hk) hi hn (congrArg Value.int (i_of _).symm) dJ1_charAt_3b067_8 ?_
  refine k_sipush (pc := 9) (n := 255) E dJ1_charAt_3b067_9 (by decide) ?_
  refine k_iand (pc := 12) E dJ1_charAt_3b067_12 ?_
  refine k_i2c (pc := 13) (v := (xch (k : Int) i)) E (by rw [← hb.1]; unfold iand; rw [i_of, i_of]; rfl) dJ1_charAt_3b067_13 ?_
  exact k_nret (pc := 14) E dJ1_charAt_3b067_14 hb.2 rfl
set_option maxRecDepth 100000 in
set_option maxHeartbeats 4000000 in
theorem c_J0_charAt_5068e (l : Launch) (D : va_G) (a : Nat → Nat) (cI cJ cS cT : ClassId) (adK adV : Nat → Nat) (kA : Nat) (s0 : gMem) (k : Nat) (hk : k < 12) (i : Int) (hi : 0 ≤ i) (hn : i < xlen (k : Int)) : gCS l yJ0_charAt_5068e cJ0_charAt_5068e 2 (some .char) 4 256 D vwCl (gT cI cJ cS cT) (wdX a cI cJ cS cT) lgX kI (fun z => z = (xch (k : Int) i)) [.ref (adK k), gI i] s0 ((xch (k : Int) i), s0) adK adV kA := by
  refine gCS_of (by decide +kernel) (hwdX a cI cJ cS cT) (Nat.le_of_ble_eq_true rfl) ?_
  intro A p e R s m args below meth c hR E HX
  subst hR
  have hq := xlen_rg k hk
  have hz : (i.toNat : Int) = i := by omega
  have hb := xby_all k hk i.toNat (by omega)
  rw [hz] at hb
  refine k_aloadn (pc := 0) E 0 dJ0_charAt_5068e_0 rfl rfl ?_
  refine k_callVS (pc := 1) (np := 0) (As := []) (st := []) E HX (C := "java/lang/String") (fun H locs hS => vk_recv HX.2.1 hk hS) (c_J0_isLatin1_aae02 l D a cI cJ cS cT adK adV kA s0 k hk) wm_380 wm_12 wm_377 wm_378 wm_379 (by decide +kernel) ⟨by decide, by decide⟩ rfl (Nat.le_of_ble_eq_true rfl) dJ0_charAt_5068e_1 (ro_kk (fun hr1 => ?_))
  refine k_st (st' := [gI 1]) rfl ?_
  refine k_if_eq_f (pc := 4) (tgt := 16) (x := 1) E ⟨by decide, by decide⟩ dJ0_charAt_5068e_4 (by decide) (by decide) ?_
  refine k_aloadn (pc := 7) E 0 dJ0_charAt_5068e_7 rfl rfl ?_
  refine k_getS (pc := 8) E (HX.2.1.1 k hk).2.2.1 wm_1297 rfl dJ0_charAt_5068e_8 ?_
  refine k_iloadn (pc := 11) E 1 dJ0_charAt_5068e_11 rfl rfl ?_
  refine k_callSX (pc := 12) (np := 2) (As := [.ref (adV k), gI i]) (st := []) E HX (c_J1_charAt_3b067 l D a cI cJ cS cT adK adV kA s0 k hk i hi hn) wm_383 wm_13 wm_381 wm_382 (by decide +kernel) ⟨by decide, by decide⟩ rfl (Nat.le_of_ble_eq_true rfl) dJ0_charAt_5068e_12 (ro_kk (fun hr12 => ?_))
  refine k_st (st' := [gI (xch (k : Int) i)]) rfl ?_
  exact k_nret (pc := 15) E dJ0_charAt_5068e_15 hb.2 rfl
theorem tn12 {z : Int} (h : rg12 z) : z.toNat < 12 := by omega
theorem xlen_p (z : Int) (h : rg12 z) : 2 ≤ xlen z ∧ xlen z ≤ 6 := by
  have e : ((z.toNat : Nat) : Int) = z := Int.toNat_of_nonneg h.1
  have := xlen_rg z.toNat (tn12 h)
  rwa [e] at this
theorem xch_p (z i : Int) (h : rg12 z) (hi : 0 ≤ i ∧ i < 6) : 0 ≤ xch z i ∧ xch z i ≤ 122 := by
  have e : ((z.toNat : Nat) : Int) = z := Int.toNat_of_nonneg h.1
  have e2 : ((i.toNat : Nat) : Int) = i := Int.toNat_of_nonneg hi.1
  have := xch_rg z.toNat (tn12 h) i.toNat (by omega)
  rwa [e, e2] at this
def xkd (i : Int) : Int := xKd.getD i.toNat 0
theorem xkd_p (i : Int) (h : 0 ≤ i ∧ i < 6) : -1 ≤ xkd i ∧ xkd i ≤ 2 := by
  have e2 : ((i.toNat : Nat) : Int) = i := Int.toNat_of_nonneg h.1
  have k : ∀ n : Nat, n < 6 → -1 ≤ xkd (n : Int) ∧ xkd (n : Int) ≤ 2 := by decide +kernel
  have := k i.toNat (by omega)
  rwa [e2] at this
theorem c_strlen (l : Launch) (D : va_G) (a : Nat → Nat) (cI cJ cS cT : ClassId) (adK adV : Nat → Nat) (kA : Nat) (s0 : gMem) (z : Int) (hz : rg12 z) : gCS l yJ0_length_8abf5 cJ0_length_8abf5 1 (some .int) 2 128 D vwCl (gT cI cJ cS cT) (wdX a cI cJ cS cT) lgX kI in32 [.ref (adK z.toNat)] s0 (xlen z, s0) adK adV kA := by
  have e : ((z.toNat : Nat) : Int) = z := Int.toNat_of_nonneg hz.1
  have := c_J0_length_8abf5 l D a cI cJ cS cT adK adV kA s0 z.toNat (tn12 hz)
  rwa [e] at this
theorem c_strat (l : Launch) (D : va_G) (a : Nat → Nat) (cI cJ cS cT : ClassId) (adK adV : Nat → Nat) (kA : Nat) (s0 : gMem) (z : Int) (hz : rg12 z) (i : Int) (h0 : 0 ≤ i) (h1 : i < xlen z) : gCS l yJ0_charAt_5068e cJ0_charAt_5068e 2 (some .char) 4 256 D vwCl (gT cI cJ cS cT) (wdX a cI cJ cS cT) lgX kI (fun q => q = xch z i) [.ref (adK z.toNat), gI i] s0 (xch z i, s0) adK adV kA := by
  have e : ((z.toNat : Nat) : Int) = z := Int.toNat_of_nonneg hz.1
  have := c_J0_charAt_5068e l D a cI cJ cS cT adK adV kA s0 z.toNat (tn12 hz) i h0 (by rw [e]; exact h1)
  rwa [e] at this
