/-! calls of methods, and their beginning -/
section ZH
variable {g : zG} {d : Nat} {M : zMeth} {K : Option zV → zM → Prop} {pc : Nat} {lv : zL} {st : List zV} {μ : zM} {x y : Int}
theorem zNw_form {w : Cond} (h : w ∈ zNw) : ∃ a i b n d e, w = .fieldLinkNest a i b n d e := by
  have h2 := (List.mem_filter.mp h).2
  unfold zNst at h2
  split at h2
  · exact ⟨_, _, _, _, _, _, rfl⟩
  · cases h2
theorem zSt_moved {s U : State} {locs : List Loc} (h : zSt g s) (hvm : s.WarmedH U.vm) (hS : va_S (zA g) s.heap U.heap locs) : zSt g U := by
  refine ⟨va_K.moved hvm.alike h.1, h.2.1, ?_, ?_, ⟨(h.2.2.2.2.1.1.moved hvm.alike).kept hS.2.1, (h.2.2.2.2.1.2.moved hvm.alike).kept hS.2.1⟩, fun w hw => ?_, ?_⟩
  · exact (h.2.2.1.moved hvm.alike).kept hS.2.1
  · exact (h.2.2.2.1.moved hvm.alike).kept hS.2.1
  · have h9 := h.2.2.2.2.2.1 w hw
    obtain ⟨a, i, b, n, d, e, rfl⟩ := zNw_form hw
    exact va_Nw.warmF hvm h9
  · obtain ⟨r1, r2, r3, r4, r5, r6⟩ := h.2.2.2.2.2.2
    exact ⟨r1.warm hvm, r2.warm hvm, r3.warm hvm, r4.warm hvm, (r5.moved hvm.alike).kept hS.2.1, (r6.moved hvm.alike).kept hS.2.1⟩
theorem zPc_blind (g : zG) (av : List zV) (μ : zM) : FrameBlind (zPc g av μ) := by
  intro a U f mk h
  obtain ⟨h1, h2, h3, h4⟩ := h
  refine ⟨h1, h2, h3, va_K.moved (u := U) (U := U.calling f mk a) (Vm.Alike.refl U.vm) h4.1, h4.2.1, ?_, ?_, ⟨va_T.moved (u := U) (U := U.calling f mk a) (Vm.Alike.refl U.vm) h4.2.2.2.2.1.1, va_T.moved (u := U) (U := U.calling f mk a) (Vm.Alike.refl U.vm) h4.2.2.2.2.1.2⟩, fun w hw => ?_, ?_⟩
  · exact va_Z.moved (u := U) (U := U.calling f mk a) (Vm.Alike.refl U.vm) h4.2.2.1
  · exact va_Z.moved (u := U) (U := U.calling f mk a) (Vm.Alike.refl U.vm) h4.2.2.2.1
  · have h9 := h4.2.2.2.2.2.1 w hw
    obtain ⟨a, i, b, n, d, e, rfl⟩ := zNw_form hw
    exact va_Nw.same rfl rfl h9
  · obtain ⟨r1, r2, r3, r4, r5, r6⟩ := h4.2.2.2.2.2.2
    exact ⟨r1.same rfl, r2.same rfl, r3.same rfl, r4.same rfl, vk_S.moved (u := U) (U := U.calling f mk a) (Vm.Alike.refl U.vm) r5, va_Z.moved (u := U) (U := U.calling f mk a) (Vm.Alike.refl U.vm) r6⟩
/-- what the tables say of a method that is called -/
def zPi (own i id n : Nat) : Prop := Cond.methodLink (zOwn.getD own "") i (zMt id).1 ∈ zTb ∧ Cond.initialized (zMt id).1.cls ∈ zTb ∧ Cond.code (zMt id).1 (zMt id).2.1 (zMt id).2.2.1 (zMt id).2.2.2.1 ∈ zTb ∧
  ((zMt id).1.cls ≠ "java/lang/invoke/MethodHandle" ∧ (zMt id).1.cls ≠ "java/lang/invoke/VarHandle" ∧ (parseMethodDescriptor (zMt id).1.desc).map (fun q => q.parameters.length) = some n) ∧ (zMt id).2.2.1 ≤ 45
theorem zTb_good {w : Cond} (h : w ∈ zTb) : (w.onTables && w.keeps) = true ∨ ∃ ty, w = .arrayClass ty := good_of_word (List.mem_filter.mp h).2
theorem zgoodIn {id : Nat} (h : Cond.code (zMt id).1 (zMt id).2.1 (zMt id).2.2.1 (zMt id).2.2.2.1 ∈ zTb) : GoodIn zTb (zws (zMt id)) := fun w hw => by
  rcases List.mem_cons.mp hw with rfl | hw
  · exact ⟨h, zTb_good h⟩
  · exact ⟨hw, zTb_good hw⟩
theorem zpop_spec : ∀ (n : Nat) (st acc as rest : List zV), zpop n st acc = some (as, rest) → ∃ l : List zV, l.length = n ∧ as = l ++ acc ∧ st = l.reverse ++ rest
  | 0, st, acc, as, rest, h => by
    cases h
    exact ⟨[], rfl, rfl, rfl⟩
  | n + 1, [], acc, as, rest, h => by cases h
  | n + 1, v :: st, acc, as, rest, h => by
    obtain ⟨l, h1, h2, h3⟩ := zpop_spec n st (v :: acc) as rest h
    exact ⟨l ++ [v], by simp [h1], by simp [h2], by simp [h3]⟩
/-- a call is through -/
theorem zs_ran {p : Program} {e : Env} {R : Room} {s : State} {m : MethodId} {args : Array Value} {below : List Frame} {meth : Method} {c : Code} {H : Heap} {locs : List Loc} {cells slots : Nat} {Q : State → Prop} {ls : Array Slot} {rest : List zV} {st0 : List Value} {a : Array Value}
    (hrun : va_Run p g.1 e R s m args below meth c H locs cells slots 0 0 (F0 m pc ls st0) (rest.map (zR g)) (zQc g (fun v μ' => zTm g d M K (pc + 3) lv (v.toList ++ rest) μ') a) (zA g))
    (C : zCx g d M p R s m args c cells slots) (hl : zHas g ls M.2.2.1 lv) (hs : ∀ v ∈ rest, zok v) (hv : ∀ (i : Nat) (v : zV), zget lv i = some v → zok v) (hS : va_S (zA g) s.heap H locs)
    (hret : ∀ (v : Option zV) (μ' : zM) (H' : Heap) (locs' : List Loc) (ls' : Array Slot) (pc' : Nat), zRel g μ' H' → va_S (zA g) s.heap H' locs' → zokO v → K v μ' → zret M pc' v → W p g.1 e R s m args below meth c H' locs' cells slots Q (F0 m pc' ls' (v.toList.map (zR g)))) :
    W p g.1 e R s m args below meth c H locs cells slots Q (F0 m pc ls st0) := by
  intro T hT X
  obtain ⟨v, st₀, t, T', L, h0, X', hL, e1, e2, ⟨v', μ', hv', hok, hrel, hK, hz, hk⟩, st⟩ := hrun T hT X
  have hv2 : v = v'.map (zR g) := Outcome.returned.inj hv'
  subst hv2
  rw [h0] at hz hk
  have hS1 : va_S (zA g) s.heap T'.heap (locs ++ L) := by
    rw [e1]
    refine ⟨Nat.le_trans hS.1 hz, fun q h1 h2 => ?_, fun q hq => ?_⟩
    · rw [hk q (Nat.lt_of_lt_of_le h1 hS.1) h2]
      exact hS.2.1 q h1 h2
    · rcases List.mem_append.mp hq with h | h
      · exact hS.2.2 q h
      · exact hL q h
  have hst : ∀ z ∈ v'.toList ++ rest, zok z := by
    intro z hz2
    rcases List.mem_append.mp hz2 with h | h
    · cases v' with
      | none => cases h
      | some w =>
        have : z = w := by simpa using h
        exact hok z (by rw [this])
    · exact hs z h
  obtain ⟨t2, a1, b1⟩ := hK p e R s m args below meth c T'.heap (locs ++ L) cells slots Q ls C hl hst hv (by rw [e1]; exact hrel) hS1 hret T' rfl X'
  have hmap : (v'.toList ++ rest).map (zR g) = (v'.map (zR g)).toList ++ rest.map (zR g) := by
    cases v' <;> rfl
  rw [hmap] at a1
  exact ⟨t2, st t2 a1, b1⟩
theorem zs_callV {i id n c : Nat} {q : zT0 × Nat} {as rest : List zV} (hq : q.1 = (0, c)) (hd : decode M.2.1 pc = .ok (.invokevirtual i, 3)) (hp : zPi M.2.2.2.2.1 i id n) (hp2 : Cond.instanceMethod (zMt id).1 ∈ zTb ∧ Cond.selects (zMt id).1.cls (zMt id).1 (zMt id).1 ∈ zTb ∧ ∃ T N, vwCl[c]? = some ((zMt id).1.cls, T, N))
    (hn : as.length = n) (hst : st = as.reverse ++ .inr (.inr q) :: rest) (hc : zcats rest ≤ 8) (hd0 : 0 < d) (h : zCal0 g (d - 1) id (.inr (.inr q) :: as) μ (fun v μ' => zTm g d M K (pc + 3) lv (v.toList ++ rest) μ')) : zTm g d M K pc lv st μ := by
  intro p e R s m args below meth cc H locs cells slots Q ls C hl hs hv hr hS hret
  obtain ⟨p1, p2, p3, p4, p5⟩ := hp
  obtain ⟨p6, p7, T, N, p8⟩ := hp2
  have hw := C.2.2.2.2.1
  have hfr : d ≤ R.frames := C.2.2.2.2.2.2.1
  have hlo : 64 * d ≤ R.locals := C.2.2.2.2.2.2.2.1
  have hoks : ∀ v ∈ (.inr (.inr q) : zV) :: as, zok v := fun v hv9 => hs v (by
    rw [hst]
    rcases List.mem_cons.mp hv9 with rfl | h9
    · exact List.mem_append_right _ List.mem_cons_self
    · exact List.mem_append_left _ (List.mem_reverse.mpr h9))
  have hrest : ∀ v ∈ rest, zok v := fun v hv9 => hs v (by rw [hst]; exact List.mem_append_right _ (List.mem_cons_of_mem _ hv9))
  have hq1 : zSh[q.2]? = some (0, c) := by
    rcases hoks _ List.mem_cons_self with h1 | h1 | h1
    · rw [h1, hq]
    · rw [h1] at hq; cases hq
    · rw [h1] at hq; cases hq
  have he : (zW g μ)[q.2]? = some (zad g q.2, .inr (c, zFs g q.2 (μ q.2) 0 (zFl.getD c []))) := zW_get hq1
  have hrecv := va_recv C.2.2.2.2.2.1.1 hr.1 p8 he
  have hmap : st.map (zR g) = (as.map (zR g)).reverse ++ Value.ref (zad g q.2) :: rest.map (zR g) := by
    rw [hst, List.map_append, List.map_reverse]
    rfl
  have hrun : va_Run p g.1 e R s m args below meth cc H locs cells slots 0 0 (F0 m pc ls (st.map (zR g))) (rest.map (zR g)) (zQc g (fun v μ' => zTm g d M K (pc + 3) lv (v.toList ++ rest) μ') (Value.ref (zad g q.2) :: as.map (zR g)).toArray) (zA g) := by
    refine va_runV (C := (zMt id).1.cls) (Ts := zTb) (own := zOwn.getD M.2.2.2.2.1 "") (index := i) (n := n) (bytes := (zMt id).2.1) (maxL := (zMt id).2.2.1) (ret := (zMt id).2.2.2.1) ⟨C.1, C.2.1, C.2.2.1, C.2.2.2.1, hw⟩ h ⟨?_, hw _ p6, hw _ p7⟩ ⟨zPc_blind g _ μ, hrecv, ?_⟩ rfl (by rw [List.length_map]; exact hn) hl.1 hmap ?_ hd ⟨C.2.2.2.2.2.2.2.2.1, C.2.2.2.2.2.2.2.2.2⟩
    · exact callB_of n hw (zgoodIn p3) rfl rfl rfl (hw _ p2) (hw _ p1) p4 ⟨by show d - 1 + 1 ≤ R.frames; omega, by show 8 + ((zMt id).2.2.1 + 11) + 64 * (d - 1) ≤ R.locals; omega⟩
    · intro U hU hWm
      refine ⟨rfl, hoks, by rw [hU]; exact hr, zSt_moved (locs := locs) C.2.2.2.2.2.1 hWm (by rw [hU]; exact hS)⟩
    · exact lv_room (by rw [zcats_eq]; exact hc)
  exact zs_ran hrun C hl hrest hv hS hret
theorem zs_callS {i id n : Nat} {as rest : List zV} (hd : decode M.2.1 pc = .ok (.invokestatic i, 3)) (hp : zPi M.2.2.2.2.1 i id n) (hp2 : Cond.static (zMt id).1 ∈ zTb)
    (hn : as.length = n) (hst : st = as.reverse ++ rest) (hc : zcats rest ≤ 8) (hd0 : 0 < d) (h : zCal0 g (d - 1) id as μ (fun v μ' => zTm g d M K (pc + 3) lv (v.toList ++ rest) μ')) : zTm g d M K pc lv st μ := by
  intro p e R s m args below meth cc H locs cells slots Q ls C hl hs hv hr hS hret
  obtain ⟨p1, p2, p3, p4, p5⟩ := hp
  have hw := C.2.2.2.2.1
  have hfr : d ≤ R.frames := C.2.2.2.2.2.2.1
  have hlo : 64 * d ≤ R.locals := C.2.2.2.2.2.2.2.1
  have hoks : ∀ v ∈ as, zok v := fun v hv9 => hs v (by rw [hst]; exact List.mem_append_left _ (List.mem_reverse.mpr hv9))
  have hrest : ∀ v ∈ rest, zok v := fun v hv9 => hs v (by rw [hst]; exact List.mem_append_right _ hv9)
  have hmap : st.map (zR g) = (as.map (zR g)).reverse ++ rest.map (zR g) := by
    rw [hst, List.map_append, List.map_reverse]
  have hrun : va_Run p g.1 e R s m args below meth cc H locs cells slots 0 0 (F0 m pc ls (st.map (zR g))) (rest.map (zR g)) (zQc g (fun v μ' => zTm g d M K (pc + 3) lv (v.toList ++ rest) μ') (as.map (zR g)).toArray) (zA g) := by
    refine va_runS (Ts := zTb) (own := zOwn.getD M.2.2.2.2.1 "") (index := i) (n := n) (bytes := (zMt id).2.1) (maxL := (zMt id).2.2.1) (ret := (zMt id).2.2.2.1) ⟨C.1, C.2.1, C.2.2.1, C.2.2.2.1, hw⟩ h ⟨?_, hw _ hp2⟩ ⟨zPc_blind g _ μ, ?_⟩ rfl (by rw [List.length_map]; exact hn) hl.1 hmap ?_ hd ⟨C.2.2.2.2.2.2.2.2.1, C.2.2.2.2.2.2.2.2.2⟩
    · exact callB_of n hw (zgoodIn p3) rfl rfl rfl (hw _ p2) (hw _ p1) p4 ⟨by show d - 1 + 1 ≤ R.frames; omega, by show 8 + ((zMt id).2.2.1 + 11) + 64 * (d - 1) ≤ R.locals; omega⟩
    · intro U hU hWm
      refine ⟨rfl, hoks, by rw [hU]; exact hr, zSt_moved (locs := locs) C.2.2.2.2.2.1 hWm (by rw [hU]; exact hS)⟩
    · exact lv_room (by rw [zcats_eq]; exact hc)
  exact zs_ran hrun C hl hrest hv hS hret
-- the beginning
def zent : List zV → zL
  | [] => []
  | .inl x :: l => some (.inl x) :: zent l
  | .inr (.inl x) :: l => some (.inr (.inl x)) :: none :: zent l
  | .inr (.inr q) :: l => some (.inr (.inr q)) :: zent l
def zpad : Nat → zL → zL
  | 0, l => l
  | n + 1, [] => none :: zpad n []
  | n + 1, v :: l => v :: zpad n l
theorem zget_pad : ∀ (n : Nat) (l : zL) (i : Nat), zget (zpad n l) i = zget l i
  | 0, l, i => rfl
  | n + 1, [], i => by
    cases i with
    | zero => rfl
    | succ i => simp only [zpad, zget]; rw [zget_pad n [] i]; rfl
  | n + 1, v :: l, i => by
    cases i with
    | zero => rfl
    | succ i => simp only [zpad, zget]; exact zget_pad n l i
theorem zent_args (g : zG) : ∀ (l : List zV) (k i : Nat) (v : zV), zget (zent l) i = some v → (k + i, zR g v) ∈ lv_args k (l.map (zR g))
  | [], k, i, v, h => by cases h
  | .inl x :: l, k, i, v, h => by
    cases i with
    | zero => cases h; exact List.mem_cons_self
    | succ i =>
      have := zent_args g l (k + 1) i v h
      refine List.mem_cons_of_mem _ ?_
      rw [show k + (i + 1) = k + 1 + i from by omega]
      exact this
  | .inr (.inr q) :: l, k, i, v, h => by
    cases i with
    | zero => cases h; exact List.mem_cons_self
    | succ i =>
      have := zent_args g l (k + 1) i v h
      refine List.mem_cons_of_mem _ ?_
      rw [show k + (i + 1) = k + 1 + i from by omega]
      exact this
  | .inr (.inl x) :: l, k, i, v, h => by
    match i, h with
    | 0, h => cases h; exact List.mem_cons_self
    | 1, h => cases h
    | i + 2, h =>
      have := zent_args g l (k + 2) i v h
      refine List.mem_cons_of_mem _ ?_
      rw [show k + (i + 2) = k + 2 + i from by omega]
      exact this
theorem zent_len (g : zG) : ∀ l : List zV, (lg_sl (l.map (zR g))).length = (zent l).length
  | [] => rfl
  | .inl x :: l => by
    have := zent_len g l
    simp only [lg_sl, List.map_cons, List.flatMap_cons, zent, List.length_append, List.length_cons] at this ⊢
    rw [this]
    show 1 + _ = _
    omega
  | .inr (.inr q) :: l => by
    have := zent_len g l
    simp only [lg_sl, List.map_cons, List.flatMap_cons, zent, List.length_append, List.length_cons] at this ⊢
    rw [this]
    show 1 + _ = _
    omega
  | .inr (.inl x) :: l => by
    have := zent_len g l
    simp only [lg_sl, List.map_cons, List.flatMap_cons, zent, List.length_append, List.length_cons] at this ⊢
    rw [this]
    show 2 + _ = _
    omega
theorem zent_ok {av : List zV} (h : ∀ v ∈ av, zok v) : ∀ (i : Nat) (v : zV), zget (zent av) i = some v → zok v := by
  induction av with
  | nil => intro i v hi; cases hi
  | cons a l ih =>
    have ih := ih (fun v hv => h v (List.mem_cons_of_mem _ hv))
    intro i v hi
    rcases a with a | a | a
    · cases i with
      | zero => cases hi; exact h _ List.mem_cons_self
      | succ i => exact ih i v hi
    · match i, hi with
      | 0, hi => cases hi; exact h _ List.mem_cons_self
      | 1, hi => cases hi
      | i + 2, hi => exact ih i v hi
    · cases i with
      | zero => cases hi; exact h _ List.mem_cons_self
      | succ i => exact ih i v hi
/-- what must hold of a method's record -/
def zMr (id : Nat) : Prop := plainName (zMt id).1.cls = true ∧ (zMt id).1.cls = zOwn.getD (zMt id).2.2.2.2.1 ""
theorem zCal0.intro {id : Nat} {av : List zV} (hr : zMr id) (hn : (zent av).length ≤ (zMt id).2.2.1) (h : (∀ v ∈ av, zok v) → zMok μ → zTm g d (zMt id) K 0 (zpad (zMt id).2.2.1 (zent av)) [] μ) : zCal0 g d id av μ K := by
  refine Met.ofW (cc := (zMt id).2.1) (maxL := (zMt id).2.2.1) (ret := (zMt id).2.2.2.1) hr.1 rfl ?_
  intro p e s m args below meth c s₁ B hml hv
  obtain ⟨rfl, hoks, hrel, hst⟩ := hv
  have hx := B.exec
  have hb := B.bytes
  have hrt := B.returns
  have hts := atoms_spec (ws := zws (zMt id)) B.pre
  have hown : s.vm.findClass (zMt id).1.cls = some m.cls := findClass_of_methodNamed B.named
  have hlocks := B.notSynchronized
  have hl := lv_entry (av.map (zR g)) (n := (zMt id).2.2.1) (by rw [zent_len]; exact hn)
  rw [lg_entry_eq]
  generalize (lg_sl (av.map (zR g)) ++ List.replicate ((zMt id).2.2.1 - (lg_sl (av.map (zR g))).length) Slot.unset).toArray = ls at hl ⊢
  have C : zCx g d (zMt id) p (zrm d) s m (av.map (zR g)).toArray c 0 0 := ⟨hx, hb, hml, by rw [← hr.2]; exact hown, fun w hw => hts w (List.mem_cons_of_mem _ hw), hst, Nat.le_refl _, Nat.le_refl _, Nat.le_refl _, Nat.le_refl _⟩
  have hH : zHas g ls (zMt id).2.2.1 (zpad (zMt id).2.2.1 (zent av)) := ⟨hl.1, hl.2.1, fun i v hi => by
    rw [zget_pad] at hi
    have := zent_args g av 0 i v hi
    rw [Nat.zero_add] at this
    exact hl.2.2 _ this⟩
  refine h hoks hrel.2 p e (zrm d) s m _ below meth c s.heap [] 0 0 _ ls C hH (fun v hv => by cases hv) (fun i v hi => by rw [zget_pad] at hi; exact zent_ok hoks i v hi) hrel va_S.rf ?_
  intro v μ' H' locs' ls' pc' hrel' hS' hok' hK hret
  have hq : ∀ {o : Option Value} (_ : o = v.map (zR g)) (t : State), t.heap = H' → s.WarmedH t.vm → zQc g K (av.map (zR g)).toArray s (.returned o) t := fun ho t ht hW => ⟨v, μ', by rw [ho], hok', by rw [ht]; exact hrel', hK, by rw [ht]; exact hS'.1, by rw [ht]; exact hS'.2.1⟩
  rcases v with - | x | x | x
  · obtain ⟨r1, r2⟩ := hret
    exact W.vret hx hb (hrt.trans r2) (hq rfl) hS'.2.2 r1
  · obtain ⟨r1, r2 | ⟨r2, r3⟩⟩ := hret
    · exact W.iret hx hb (hrt.trans r2) (hq rfl) hS'.2.2 r1
    · exact W.zret (ty := .boolean) hx hb (hrt.trans r2) (by rcases r3 with rfl | rfl <;> rfl) (hq rfl) hS'.2.2 r1
  · obtain ⟨r1, r2⟩ := hret
    exact W.lret hx hb (hrt.trans r2) (hq rfl) hS'.2.2 r1
  · exact hret.elim
theorem zCal0.imp {id : Nat} {av : List zV} {K' : Option zV → zM → Prop} (h : zCal0 g d id av μ K') (hK : ∀ v μ', K' v μ' → K v μ') : zCal0 g d id av μ K := by
  unfold zCal0 Met at *
  exact MetFree.mono h (fun _ _ h9 => h9) (fun _ _ _ _ _ h9 => h9) (fun a s o s' _ hq => ⟨by
    obtain ⟨v, μ', q1, q2, q3, q4, q5⟩ := hq.1
    exact ⟨v, μ', q1, q2, q3, hK _ _ q4, q5⟩, hq.2⟩)
end ZH
