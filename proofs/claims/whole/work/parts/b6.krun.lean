-- needs b5
/-! the run of a constructor, and that it is sound -/
def kCt : List (Nat × Nat × Nat) := [(11, 9, 4), (11, 39, 7), (11, 46, 10), (11, 55, 9), (11, 64, 0), (11, 73, 1), (11, 82, 8), (11, 89, 2), (2, 11, 7), (9, 60, 7), (13, 19, 11), (13, 22, 12)]
def kCn : List (Nat × Nat × Nat) := [(11, 18, 3), (11, 25, 6), (11, 32, 5)]
def kNp : List Nat := [3, 2, 4, 0, 0, 0, 0, 0, 3, 2, 3, 0, 0]
def kOb : List Nat := [3, 3, 3, 3, 3, 1, 3, 3, 3, 3, 3, 1, 1]
def kpop : Nat → List kV → List kV → Option (List kV × List kV)
  | 0, st, acc => some (acc, st)
  | n + 1, v :: st, acc => kpop n st (v :: acc)
  | _ + 1, [], _ => none
theorem kpop_spec : ∀ (n : Nat) (st acc as rest : List kV), kpop n st acc = some (as, rest) → ∃ l : List kV, l.length = n ∧ as = l.reverse ++ acc ∧ st = l ++ rest
  | 0, st, acc, as, rest, h => by
    cases h
    exact ⟨[], rfl, rfl, rfl⟩
  | n + 1, v :: st, acc, as, rest, h => by
    obtain ⟨l, h1, h2, h3⟩ := kpop_spec n st (v :: acc) as rest h
    refine ⟨v :: l, by rw [List.length_cons, h1], ?_, by rw [h3]; rfl⟩
    rw [h2, List.reverse_cons, List.append_assoc]
    rfl
  | n + 1, [], acc, as, rest, h => by cases h
/-- the callee, its arguments, the rest -/
def kcl (M : zMeth) (ins : Instr) (E : List kE) (st : List kV) : Option (Nat × List kV × List kV) := match ins with
  | .invokespecial i => match kfind M.2.2.2.2.1 i kCt with
    | some c => match kpop (kNp.getD c 0) st [] with
      | some (as, some (.inr b) :: t) => some (c, some (.inr b) :: as, t)
      | _ => none
    | none => match kfind M.2.2.2.2.1 i kCn with
      | some c => match kpop 0 st [] with
        | some (as, some (.inr b) :: t) => some (c, some (.inr b) :: as, t)
        | _ => none
      | none => none
  | .invokevirtual i => match kpe M.2.2.2.2.1 i with
    | some (2, id, n) => match kpop (n.toNat % 100) st [] with
      | some (as, some (.inr b) :: t) => match E[b]? with
        | some (.inl (ci, _)) => if ci = n.toNat / 100 then some (13 + id, some (.inr b) :: as, t) else none
        | _ => none
      | _ => none
    | _ => none
  | .invokestatic i => match kpe M.2.2.2.2.1 i with
    | some (3, id, n) => match kpop n.toNat st [] with
      | some (as, t) => some (13 + id, as, t)
      | _ => none
    | _ => none
  | _ => none
def kobj (M : zMeth) (ins : Instr) (st : List kV) : Option (List kV) := match ins with
  | .invokespecial i => match st with
    | some (.inr _) :: t => if M.2.2.2.2.1 < 13 ∧ i = kOb.getD M.2.2.2.2.1 0 then some t else none
    | _ => none
  | _ => none
def kent : Nat → List kV → List (Nat × kV)
  | _, [] => []
  | k, v :: r => (k, v) :: kent (k + 1) r
def kend (ins : Instr) (st : List kV) (E : List kE) : Option (List kE × Nat × Nat) := match ins, st with
  | .return_, [] => some (E, 0, 0)
  | _, _ => none
/-- the methods that are run -/
def kKn (n : Nat) : Bool := Nat.blt n 13 || (Nat.beq n 177 || (Nat.beq n 47 || Nat.beq n 298))
def krun : Nat → Nat → zMeth → zC → List kE → List (Nat × kV) → List kV → Option (List kE × Nat × Nat)
  | 0, _, _, _, _, _, _ => none
  | _ + 1, _, _, [], _, _, _ => none
  | n + 1, d, M, (pc, ins, _) :: r, E, lv, st => match kpure M ins lv st with
    | some q => krun n d M r E q.1 q.2
    | none => match kheap M ins E st with
      | some q => bif Nat.beq q.1.length E.length then krun n d M r q.1 lv q.2 else none
      | none => match kall M ins st with
        | some q => bif kok E.length E && (kokl E.length q.2.1 && kokL E.length lv) then (match krun n d M r (E ++ [q.1]) lv (some (.inr E.length) :: q.2.1) with
          | some z => some (z.1, 1 + z.2.1, q.2.2 + z.2.2)
          | none => none) else none
        | none => match kjmp pc ins st with
          | some q => bif decide (0 ≤ q.1) then krun n d M (zto M.2.2.2.2.2 q.1.toNat) E lv q.2 else none
          | none => match kcl M ins E st with
            | some q => bif (kok E.length E && (kokl E.length q.2.2 && kokL E.length lv)) && (Nat.blt 0 d && (Nat.ble q.2.2.length 6 && (Nat.ble q.2.1.length (kMt q.1).2.2.1 && kKn q.1))) then (match krun n (d - 1) (kMt q.1) (kMt q.1).2.2.2.2.2 E (kent 0 q.2.1) [] with
              | some z => bif Nat.ble E.length z.1.length then (match krun n d M r z.1 lv q.2.2 with
                | some y => some (y.1, z.2.1 + y.2.1, z.2.2 + y.2.2)
                | none => none) else none
              | none => none) else none
            | none => match kobj M ins st with
              | some t => bif Nat.blt 0 d && Nat.ble t.length 6 then krun n d M r E lv t else none
              | none => kend ins st E
def kPc (g : zG) (ad : Nat → Nat) (E : List kE) (av : List kV) : Array Value → State → Prop := fun a U => a = (av.map (kval ad)).toArray ∧ kRel g ad E U.heap ∧ kSt g U ∧ g.2.2.2.2.2 ≤ U.heap.size
def kQc (g : zG) (ad : Nat → Nat) (E E' : List kE) : Array Value → State → Outcome → State → Prop := fun _ st o t => o = .returned none ∧ (∃ ad' : Nat → Nat, (∀ j, j < E.length → ad' j = ad j) ∧ kRel g ad' E' t.heap) ∧ va_F (zA g) st t
def krm (d c s : Nat) : Room := { frames := d, cells := c, slots := s, locals := 64 * d }
def kMet (g : zG) (d : Nat) (M : zMeth) (ad : Nat → Nat) (E : List kE) (av : List kV) (E' : List kE) (c s : Nat) : Prop := Met g.1 M.1 (zws M) (krm d c s) (kPc g ad E av) (kQc g ad E E') c s (zA g)
section
variable {g : zG} {d : Nat} {M : zMeth} {pc : Nat} {ad : Nat → Nat} {ins : Instr} {E E' E1 : List kE} {st st' : List kV} {lv : List (Nat × kV)} {c1 s1 : Nat}
theorem kSt_moved {s U : State} (h : kSt g s) (hvm : s.WarmedH U.vm) : kSt g U := ⟨va_K.moved hvm.alike h.1, va_AO.moved hvm.alike h.2.1, fun q hq => va_Nw.warmM hvm (h.2.2 q hq)⟩
theorem kPc_blind (av : List kV) : FrameBlind (kPc g ad E av) := by
  intro a U f mk h
  exact ⟨h.1, h.2.1, ⟨va_K.moved (u := U) (U := U.calling f mk a) (Vm.Alike.refl U.vm) h.2.2.1.1, va_AO.moved (u := U) (U := U.calling f mk a) (Vm.Alike.refl U.vm) h.2.2.1.2.1, fun q hq => va_tabs rfl (rfl : U.vm = (U.calling f mk a).vm) (h.2.2.1.2.2 q hq)⟩, h.2.2.2⟩
theorem kgoodIn (h : Cond.code M.1 M.2.1 M.2.2.1 M.2.2.2.1 ∈ zTb) : GoodIn zTb (zws M) := fun w hw => by
  rcases List.mem_cons.mp hw with rfl | hw
  · exact ⟨h, zTb_good h⟩
  · exact ⟨hw, zTb_good hw⟩
variable {p : Program} {e : Env} {R : Room} {s : State} {m : MethodId} {args : Array Value} {below : List Frame} {meth : Method} {cc : Code} {H : Heap} {locs : List Loc} {cells slots : Nat} {Q : State → Prop} {ls : Array Slot} {st0 rest : List Value}
theorem kafter {A : Array Value} (hS : va_S (zA g) s.heap H locs) (hrun : va_Run p g.1 e R s m args below meth cc H locs cells slots c1 s1 (F0 m pc ls st0) rest (kQc g ad E E1 A) (zA g))
    (kk : ∀ (ad' : Nat → Nat) (H' : Heap) (locs' : List Loc), (∀ j, j < E.length → ad' j = ad j) → kRel g ad' E1 H' → va_S (zA g) s.heap H' locs' → W p g.1 e R s m args below meth cc H' locs' (cells + c1) (slots + s1) Q (F0 m (pc + 3) ls rest)) : W p g.1 e R s m args below meth cc H locs cells slots Q (F0 m pc ls st0) := by
  intro T0 hT X
  obtain ⟨v, st₀, t, T', L, h0, X', hL, e1, e2, ⟨hv, ⟨ad', ha, hrel⟩, hz, hk⟩, stp⟩ := hrun T0 hT X
  have hv2 : v = none := Outcome.returned.inj hv
  subst hv2
  rw [h0] at hz hk
  have hS1 : va_S (zA g) s.heap T'.heap (locs ++ L) := by
    rw [e1]
    refine ⟨Nat.le_trans hS.1 hz, fun q h1 h2 => ?_, fun q hq => ?_⟩
    · rw [hk q (Nat.lt_of_lt_of_le h1 hS.1) h2]
      exact hS.2.1 q h1 h2
    · rcases List.mem_append.mp hq with h | h
      · exact hS.2.2 q h
      · exact hL q h
  obtain ⟨t2, a1, b1⟩ := kk ad' T'.heap (locs ++ L) ha (by rw [e1]; exact hrel) hS1 T' rfl X'
  exact ⟨t2, stp t2 a1, b1⟩
end
