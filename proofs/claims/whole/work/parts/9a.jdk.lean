-- needs 99
/-! THE JDK's String.indexOf on the letters, walked with the kit's rows: methods that only read -/
def jPc (g : zG) (as : List Value) : Array Value → State → Prop := fun a U => a = as.toArray ∧ zSt g U
def jQc (v : Value) : Array Value → State → Outcome → State → Prop := fun _ st o t => o = .returned (some v) ∧ t.heap = st.heap
def jMet (g : zG) (d : Nat) (y : MethodName) (code : ByteArray) (n : Nat) (ret : Option FieldType) (as : List Value) (v : Value) : Prop := Met g.1 y (Cond.code y code n ret :: zTb) (zrm d) (jPc g as) (jQc v) 0 0 (zA g)
def jCx (g : zG) (d : Nat) (own : String) (code : ByteArray) (n : Nat) (p : Program) (R : Room) (s : State) (m : MethodId) (args : Array Value) (c : Code) (cells slots : Nat) : Prop :=
  p.tables.exec = Jvm.exec ∧ c.code = code ∧ c.maxLocals = n ∧ s.vm.findClass own = some m.cls ∧ (∀ w ∈ zTb, w.before args s = true) ∧ zSt g s ∧ d ≤ R.frames ∧ 64 * d ≤ R.locals ∧ cells ≤ R.cells ∧ slots ≤ R.slots
theorem jPc_blind (g : zG) (as : List Value) : FrameBlind (jPc g as) := by
  intro a U f mk h
  obtain ⟨h1, h4⟩ := h
  refine ⟨h1, va_K.moved (u := U) (U := U.calling f mk a) (Vm.Alike.refl U.vm) h4.1, h4.2.1, ?_, ?_, ⟨va_T.moved (u := U) (U := U.calling f mk a) (Vm.Alike.refl U.vm) h4.2.2.2.2.1.1, va_T.moved (u := U) (U := U.calling f mk a) (Vm.Alike.refl U.vm) h4.2.2.2.2.1.2⟩, fun w hw => ?_, ?_⟩
  · exact va_Z.moved (u := U) (U := U.calling f mk a) (Vm.Alike.refl U.vm) h4.2.2.1
  · exact va_Z.moved (u := U) (U := U.calling f mk a) (Vm.Alike.refl U.vm) h4.2.2.2.1
  · have h9 := h4.2.2.2.2.2.1 w hw
    obtain ⟨a, i, b, n, d, e, rfl⟩ := zNw_form hw
    exact va_Nw.same rfl rfl h9
  · obtain ⟨r1, r2, r3, r4, r5, r6⟩ := h4.2.2.2.2.2.2
    exact ⟨r1.same rfl, r2.same rfl, r3.same rfl, r4.same rfl, vk_S.moved (u := U) (U := U.calling f mk a) (Vm.Alike.refl U.vm) r5, va_Z.moved (u := U) (U := U.calling f mk a) (Vm.Alike.refl U.vm) r6⟩
/-- a walk of a method that only reads, to its return with x -/
def jT (g : zG) (d : Nat) (own : String) (code : ByteArray) (n : Nat) (x : Int32) (pc : Nat) (lv : List (Nat × Value)) (st : List Value) : Prop :=
  ∀ (p : Program) (e : Env) (R : Room) (s : State) (m : MethodId) (args : Array Value) (below : List Frame) (meth : Method) (c : Code) (H : Heap) (locs : List Loc) (cells slots : Nat) (Q : State → Prop) (ls : Array Slot),
    jCx g d own code n p R s m args c cells slots → lv_has ls n lv → va_S (zA g) s.heap H locs →
    (∀ (locs' : List Loc) (ls' : Array Slot) (pc' : Nat), va_S (zA g) s.heap H locs' → decode code pc' = .ok (.ireturn, 1) → W p g.1 e R s m args below meth c H locs' cells slots Q (F0 m pc' ls' [.int x])) →
    W p g.1 e R s m args below meth c H locs cells slots Q (F0 m pc ls st)
section
variable {g : zG} {d : Nat} {own : String} {code : ByteArray} {n : Nat} {x : Int32} {pc : Nat} {lv : List (Nat × Value)} {st : List Value}
theorem jMet.intro {y : MethodName} {ty : FieldType} {as : List Value} (hy : plainName y.cls = true) (hn : (lg_sl as).length ≤ n) (hx : narrow ty (.int x) = .int x) (h : jT g d y.cls code n x 0 (lv_args 0 as) []) : jMet g d y code n (some ty) as (.int x) := by
  refine Met.ofW (cc := code) (maxL := n) (ret := some ty) hy rfl ?_
  intro p e s m args below meth c s₁ B hml hv
  obtain ⟨rfl, hst⟩ := hv
  have hex := B.exec
  have hb := B.bytes
  have hrt := B.returns
  have hts := atoms_spec (ws := Cond.code y code n (some ty) :: zTb) B.pre
  have hown : s.vm.findClass y.cls = some m.cls := findClass_of_methodNamed B.named
  have hlocks := B.notSynchronized
  have hl := lv_entry as (n := n) hn
  rw [lg_entry_eq]
  generalize (lg_sl as ++ List.replicate (n - (lg_sl as).length) Slot.unset).toArray = ls at hl ⊢
  refine h p e (zrm d) s m _ below meth c s.heap [] 0 0 _ ls ⟨hex, hb, hml, hown, fun w hw => hts w (List.mem_cons_of_mem _ hw), hst, Nat.le_refl _, Nat.le_refl _, Nat.le_refl _, Nat.le_refl _⟩ hl va_S.rf ?_
  intro locs' ls' pc' hS' hret
  exact W.zret (ty := ty) hex hb hrt hx (fun t ht hW => ⟨rfl, ht⟩) hS'.2.2 hret
/-- a call of such a method is through -/
theorem j_ran {p : Program} {e : Env} {R : Room} {s : State} {m : MethodId} {args : Array Value} {below : List Frame} {meth : Method} {c : Code} {H : Heap} {locs : List Loc} {cells slots : Nat} {Q : State → Prop} {ls : Array Slot} {rest : List Value} {st0 : List Value} {a : Array Value} {v : Value}
    (hrun : va_Run p g.1 e R s m args below meth c H locs cells slots 0 0 (F0 m pc ls st0) rest (jQc v a) (zA g)) (hS : va_S (zA g) s.heap H locs)
    (k : ∀ locs' : List Loc, va_S (zA g) s.heap H locs' → W p g.1 e R s m args below meth c H locs' cells slots Q (F0 m (pc + 3) ls (v :: rest))) : W p g.1 e R s m args below meth c H locs cells slots Q (F0 m pc ls st0) := by
  intro T hT X
  obtain ⟨v', st₀, t, T', L, h0, X', hL, e1, e2, ⟨hv, hh⟩, st⟩ := hrun T hT X
  have hv2 : v' = some v := Outcome.returned.inj hv
  subst hv2
  have hTH : T'.heap = H := by rw [e1, hh, h0]
  have hS1 : va_S (zA g) s.heap H (locs ++ L) := by
    refine ⟨hS.1, hS.2.1, fun q hq => ?_⟩
    rcases List.mem_append.mp hq with h | h
    · exact hS.2.2 q h
    · exact hL q h
  obtain ⟨t2, a1, b1⟩ := k (locs ++ L) hS1 T' hTH X'
  exact ⟨t2, st t2 a1, b1⟩
def jPi (own : String) (i : Nat) (y : MethodName) (code : ByteArray) (n : Nat) (ret : Option FieldType) (k : Nat) : Prop := Cond.methodLink own i y ∈ zTb ∧ Cond.initialized y.cls ∈ zTb ∧ Cond.code y code n ret ∈ zTb ∧ (y.cls ≠ "java/lang/invoke/MethodHandle" ∧ y.cls ≠ "java/lang/invoke/VarHandle" ∧ (parseMethodDescriptor y.desc).map (fun q => q.parameters.length) = some k) ∧ n ≤ 45
theorem jgoodIn {y : MethodName} {code : ByteArray} {n : Nat} {ret : Option FieldType} (h : Cond.code y code n ret ∈ zTb) : GoodIn zTb (Cond.code y code n ret :: zTb) := fun w hw => by
  rcases List.mem_cons.mp hw with rfl | hw
  · exact ⟨h, zTb_good h⟩
  · exact ⟨hw, zTb_good hw⟩
theorem j_callS {p : Program} {e : Env} {R : Room} {s : State} {m : MethodId} {args : Array Value} {below : List Frame} {meth : Method} {c : Code} {H : Heap} {locs : List Loc} {cells slots : Nat} {Q : State → Prop} {ls : Array Slot} {as rest st0 : List Value} {v : Value} {y : MethodName} {code' : ByteArray} {n' i k : Nat} {ret : Option FieldType}
    (C : jCx g d own code n p R s m args c cells slots) (hls : ls.size = n) (hS : va_S (zA g) s.heap H locs) (hM : jMet g (d - 1) y code' n' ret as v) (hp : jPi own i y code' n' ret k) (hp2 : Cond.static y ∈ zTb) (hd0 : 0 < d) (hk : as.length = k) (hst : st0 = as.reverse ++ rest) (hc : (rest.map fun v => v.category).sum ≤ 8) (hd : decode code pc = .ok (.invokestatic i, 3))
    (kk : ∀ locs' : List Loc, va_S (zA g) s.heap H locs' → W p g.1 e R s m args below meth c H locs' cells slots Q (F0 m (pc + 3) ls (v :: rest))) : W p g.1 e R s m args below meth c H locs cells slots Q (F0 m pc ls st0) := by
  obtain ⟨p1, p2, p3, p4, p5⟩ := hp
  obtain ⟨c1, c2, c3, c4, hw, c6, hfr, hlo, c9, c10⟩ := C
  refine j_ran (a := as.toArray) ?_ hS kk
  refine va_runS (Ts := zTb) (own := own) (index := i) (n := k) (bytes := code') (maxL := n') (ret := ret) ⟨c1, c2, c3, c4, hw⟩ hM ⟨?_, hw _ hp2⟩ ⟨jPc_blind g _, ?_⟩ rfl hk hls hst (lv_room hc) hd ⟨c9, c10⟩
  · exact callB_of k hw (jgoodIn p3) rfl rfl rfl (hw _ p2) (hw _ p1) p4 ⟨by show d - 1 + 1 ≤ R.frames; omega, by show 8 + (n' + 11) + 64 * (d - 1) ≤ R.locals; omega⟩
  · intro U hU hWm
    exact ⟨rfl, zSt_moved (locs := locs) c6 hWm (by rw [hU]; exact hS)⟩
theorem j_callV {p : Program} {e : Env} {R : Room} {s : State} {m : MethodId} {args : Array Value} {below : List Frame} {meth : Method} {c : Code} {H : Heap} {locs : List Loc} {cells slots : Nat} {Q : State → Prop} {ls : Array Slot} {as rest st0 : List Value} {v : Value} {y : MethodName} {code' : ByteArray} {n' i k : Nat} {ret : Option FieldType}
    (C : jCx g d own code n p R s m args c cells slots) (hls : ls.size = n) (hS : va_S (zA g) s.heap H locs) (hM : jMet g (d - 1) y code' n' ret (.ref (zad g 1002) :: as) v) (hp : jPi own i y code' n' ret k) (hp2 : Cond.instanceMethod y ∈ zTb ∧ Cond.selects "java/lang/String" y y ∈ zTb) (hd0 : 0 < d) (hk : as.length = k) (hst : st0 = as.reverse ++ .ref (zad g 1002) :: rest) (hc : (rest.map fun v => v.category).sum ≤ 8) (hd : decode code pc = .ok (.invokevirtual i, 3))
    (kk : ∀ locs' : List Loc, va_S (zA g) s.heap H locs' → W p g.1 e R s m args below meth c H locs' cells slots Q (F0 m (pc + 3) ls (v :: rest))) : W p g.1 e R s m args below meth c H locs cells slots Q (F0 m pc ls st0) := by
  obtain ⟨p1, p2, p3, p4, p5⟩ := hp
  obtain ⟨c1, c2, c3, c4, hw, c6, hfr, hlo, c9, c10⟩ := C
  have hrecv := vk_recv (i := 0) c6.2.2.2.2.2.2.2.2.2.2.1 (by omega) hS
  refine j_ran (a := (Value.ref (zad g 1002) :: as).toArray) ?_ hS kk
  refine va_runV (C := "java/lang/String") (Ts := zTb) (own := own) (index := i) (n := k) (bytes := code') (maxL := n') (ret := ret) ⟨c1, c2, c3, c4, hw⟩ hM ⟨?_, hw _ hp2.1, hw _ hp2.2⟩ ⟨jPc_blind g _, hrecv, ?_⟩ rfl hk hls hst (lv_room hc) hd ⟨c9, c10⟩
  · exact callB_of k hw (jgoodIn p3) rfl rfl rfl (hw _ p2) (hw _ p1) p4 ⟨by show d - 1 + 1 ≤ R.frames; omega, by show 8 + (n' + 11) + 64 * (d - 1) ≤ R.locals; omega⟩
  · intro U hU hWm
    exact ⟨rfl, zSt_moved (locs := locs) c6 hWm (by rw [hU]; exact hS)⟩
end
/-! the words -/
set_option maxRecDepth 100000 in
theorem jp_indexOf1 : jPi RX6 75 yJ0_indexOf_0f7a4 cJ0_indexOf_0f7a4 2 (some .int) 1 := ⟨zmA 3 196 (by decide +kernel) (by decide +kernel), zmA 1 16 (by decide +kernel) (by decide +kernel), zmA 3 199 rfl (by decide +kernel), ⟨by decide +kernel, by decide +kernel, by decide +kernel⟩, by decide +kernel⟩
set_option maxRecDepth 100000 in
theorem jv_indexOf1 : Cond.instanceMethod yJ0_indexOf_0f7a4 ∈ zTb ∧ Cond.selects "java/lang/String" yJ0_indexOf_0f7a4 yJ0_indexOf_0f7a4 ∈ zTb := ⟨zmA 3 197 (by decide +kernel) (by decide +kernel), zmA 3 198 (by decide +kernel) (by decide +kernel)⟩
set_option maxRecDepth 100000 in
theorem jp_indexOf2 : jPi RJ0 633 yJ0_indexOf_7cf53 cJ0_indexOf_7cf53 3 (some .int) 2 := ⟨zmA 3 200 (by decide +kernel) (by decide +kernel), zmA 1 16 (by decide +kernel) (by decide +kernel), zmA 3 203 rfl (by decide +kernel), ⟨by decide +kernel, by decide +kernel, by decide +kernel⟩, by decide +kernel⟩
set_option maxRecDepth 100000 in
theorem jv_indexOf2 : Cond.instanceMethod yJ0_indexOf_7cf53 ∈ zTb ∧ Cond.selects "java/lang/String" yJ0_indexOf_7cf53 yJ0_indexOf_7cf53 ∈ zTb := ⟨zmA 3 201 (by decide +kernel) (by decide +kernel), zmA 3 202 (by decide +kernel) (by decide +kernel)⟩
set_option maxRecDepth 100000 in
theorem jp_isLatin1 : jPi RJ0 492 yJ0_isLatin1_aae02 cJ0_isLatin1_aae02 1 (some .boolean) 0 := ⟨zmA 3 204 (by decide +kernel) (by decide +kernel), zmA 1 16 (by decide +kernel) (by decide +kernel), zmA 3 207 rfl (by decide +kernel), ⟨by decide +kernel, by decide +kernel, by decide +kernel⟩, by decide +kernel⟩
set_option maxRecDepth 100000 in
theorem jv_isLatin1 : Cond.instanceMethod yJ0_isLatin1_aae02 ∈ zTb ∧ Cond.selects "java/lang/String" yJ0_isLatin1_aae02 yJ0_isLatin1_aae02 ∈ zTb := ⟨zmA 3 205 (by decide +kernel) (by decide +kernel), zmA 3 206 (by decide +kernel) (by decide +kernel)⟩
set_option maxRecDepth 100000 in
theorem jp_length : jPi RJ0 505 yJ0_length_8abf5 cJ0_length_8abf5 1 (some .int) 0 := ⟨zmA 3 210 (by decide +kernel) (by decide +kernel), zmA 1 16 (by decide +kernel) (by decide +kernel), zmA 3 213 rfl (by decide +kernel), ⟨by decide +kernel, by decide +kernel, by decide +kernel⟩, by decide +kernel⟩
set_option maxRecDepth 100000 in
theorem jv_length : Cond.instanceMethod yJ0_length_8abf5 ∈ zTb ∧ Cond.selects "java/lang/String" yJ0_length_8abf5 yJ0_length_8abf5 ∈ zTb := ⟨zmA 3 211 (by decide +kernel) (by decide +kernel), zmA 3 212 (by decide +kernel) (by decide +kernel)⟩
set_option maxRecDepth 100000 in
theorem jp_coder : jPi RJ0 335 yJ0_coder_7d493 cJ0_coder_7d493 1 (some .byte) 0 := ⟨zmA 3 214 (by decide +kernel) (by decide +kernel), zmA 1 16 (by decide +kernel) (by decide +kernel), zmA 3 217 rfl (by decide +kernel), ⟨by decide +kernel, by decide +kernel, by decide +kernel⟩, by decide +kernel⟩
set_option maxRecDepth 100000 in
theorem jv_coder : Cond.instanceMethod yJ0_coder_7d493 ∈ zTb ∧ Cond.selects "java/lang/String" yJ0_coder_7d493 yJ0_coder_7d493 ∈ zTb := ⟨zmA 3 215 (by decide +kernel) (by decide +kernel), zmA 3 216 (by decide +kernel) (by decide +kernel)⟩
set_option maxRecDepth 100000 in
theorem jp_indexOf3 : jPi RJ0 637 yJ1_indexOf_4cfef cJ1_indexOf_4cfef 4 (some .int) 4 := ⟨zmA 3 218 (by decide +kernel) (by decide +kernel), zmA 1 17 (by decide +kernel) (by decide +kernel), zmA 3 220 rfl (by decide +kernel), ⟨by decide +kernel, by decide +kernel, by decide +kernel⟩, by decide +kernel⟩
set_option maxRecDepth 100000 in
theorem js_indexOf3 : Cond.static yJ1_indexOf_4cfef ∈ zTb := zmA 3 219 (by decide +kernel) (by decide +kernel)
set_option maxRecDepth 100000 in
theorem jp_canEncode : jPi RJ1 88 yJ1_canEncode_9a6ad cJ1_canEncode_9a6ad 1 (some .boolean) 1 := ⟨zmA 3 221 (by decide +kernel) (by decide +kernel), zmA 1 17 (by decide +kernel) (by decide +kernel), zmA 3 223 rfl (by decide +kernel), ⟨by decide +kernel, by decide +kernel, by decide +kernel⟩, by decide +kernel⟩
set_option maxRecDepth 100000 in
theorem js_canEncode : Cond.static yJ1_canEncode_9a6ad ∈ zTb := zmA 3 222 (by decide +kernel) (by decide +kernel)
set_option maxRecDepth 100000 in
theorem jp_indexOfChar : jPi RJ1 95 yJ1_indexOfChar_4cfef cJ1_indexOfChar_4cfef 6 (some .int) 4 := ⟨zmA 3 226 (by decide +kernel) (by decide +kernel), zmA 1 17 (by decide +kernel) (by decide +kernel), zmA 3 228 rfl (by decide +kernel), ⟨by decide +kernel, by decide +kernel, by decide +kernel⟩, by decide +kernel⟩
set_option maxRecDepth 100000 in
theorem js_indexOfChar : Cond.static yJ1_indexOfChar_4cfef ∈ zTb := zmA 3 227 (by decide +kernel) (by decide +kernel)
set_option maxRecDepth 100000 in
theorem jf_compact : Cond.fieldLink RJ0 38 "java/lang/String" "COMPACT_STRINGS" "Z" ∈ zTb := zmA 3 208 (by decide +kernel) (by decide +kernel)
set_option maxRecDepth 100000 in
theorem jf_coder : Cond.fieldLink RJ0 15 "java/lang/String" "coder" "B" ∈ zTb := zmA 10 86 (by decide +kernel) (by decide +kernel)
set_option maxRecDepth 100000 in
theorem jf_value : Cond.fieldLink RJ0 9 "java/lang/String" "value" "[B" ∈ zTb := zmA 10 87 (by decide +kernel) (by decide +kernel)
set_option maxRecDepth 100000 in
theorem jm_max : Cond.methodLink RJ1 92 Lib.Math.max.name ∈ zTb := zmA 3 224 (by decide +kernel) (by decide +kernel)
set_option maxRecDepth 100000 in
theorem jm_min : Cond.methodLink RJ1 38 Lib.Math.min.name ∈ zTb := zmA 3 225 (by decide +kernel) (by decide +kernel)
set_option maxRecDepth 100000 in
theorem jw_math : Cond.initialized "java/lang/Math" ∈ zTb := zmA 1 15 (by decide +kernel) (by decide +kernel)
set_option maxRecDepth 100000 in
theorem jw_max1 : Cond.static Lib.Math.max.name ∈ zTb := zmA 3 122 (by decide +kernel) (by decide +kernel)
set_option maxRecDepth 100000 in
theorem jw_max2 : Cond.code Lib.Math.max.name Lib.Math.max.code 2 (some .int) ∈ zTb := zmA 3 123 (by decide +kernel) (by decide +kernel)
set_option maxRecDepth 100000 in
theorem jw_min1 : Cond.static Lib.Math.min.name ∈ zTb := zmA 3 125 (by decide +kernel) (by decide +kernel)
set_option maxRecDepth 100000 in
theorem jw_min2 : Cond.code Lib.Math.min.name Lib.Math.min.code 2 (some .int) ∈ zTb := zmA 3 126 (by decide +kernel) (by decide +kernel)
