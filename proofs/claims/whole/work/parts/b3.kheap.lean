-- needs b2
/-! fields and elements in the world that is made -/
def kfit (ty : FieldType) (v : kV) : Bool := match ty, v with
  | .int, some (.inl _) => true
  | .boolean, some (.inl n) => decide (n = 0 ∨ n = 1)
  | .object _, some (.inr _) => true
  | .array _, some (.inr _) => true
  | _, _ => false
theorem kfit_ok {ad : Nat → Nat} {ty : FieldType} {v : kV} (h : kfit ty v = true) : narrow ty (kval ad v) = kval ad v ∧ fits ty (kval ad v) = true := by
  unfold kfit at h
  split at h
  · exact ⟨rfl, rfl⟩
  · rcases of_decide_eq_true h with rfl | rfl <;> exact ⟨rfl, rfl⟩
  · exact ⟨rfl, rfl⟩
  · exact ⟨rfl, rfl⟩
  · cases h
def kput (M : zMeth) (i : Nat) (E : List kE) (st : List kV) : Option (List kE × List kV) := match st with
  | v :: some (.inr a) :: t => match kpe M.2.2.2.2.1 i with
    | some (0, c, f) => match E[a]? with
      | some (.inl (c', fs)) => match vwCl[c]? with
        | some q => match parseFieldDescriptor (q.2.1 f.toNat).2.2.1 with
          | some ty => if (c' = c ∧ f.toNat < fs.length) ∧ kfit ty v = true ∧ ((q.2.1 f.toNat).2.2.2 = false ∨ ((q.2.1 f.toNat).2.2.2 = true ∧ (q.2.1 f.toNat).1 = zOwn.getD M.2.2.2.2.1 "" ∧ M.1.name = "<init>")) then some (E.set a (.inl (c, fs.set f.toNat v)), t) else none
          | none => none
        | none => none
      | _ => none
    | _ => none
  | _ => none
def kgetf (M : zMeth) (i : Nat) (E : List kE) (st : List kV) : Option (List kE × List kV) := match st with
  | some (.inr a) :: t => match kpe M.2.2.2.2.1 i with
    | some (0, c, f) => match E[a]? with
      | some (.inl (c', fs)) => match fs[f.toNat]? with
        | some v => if c' = c then some (E, v :: t) else none
        | none => none
      | _ => none
    | _ => none
  | _ => none
def kiast (E : List kE) (st : List kV) : Option (List kE × List kV) := match st with
  | some (.inl x) :: some (.inl i) :: some (.inr a) :: t => match E[a]? with
    | some (.inr (1, n, l)) => if 0 ≤ i ∧ i < (n : Int) ∧ i ≤ 2147483647 then some (E.set a (.inr (1, n, kset 0 l i.toNat x)), t) else none
    | _ => none
  | _ => none
def kzast (E : List kE) (st : List kV) : Option (List kE × List kV) := match st with
  | some (.inl x) :: some (.inl i) :: some (.inr a) :: t => match E[a]? with
    | some (.inr (2, n, l)) => if (0 ≤ i ∧ i < (n : Int) ∧ i ≤ 2147483647) ∧ x = 0 then some (E.set a (.inr (2, n, kset 0 l i.toNat x)), t) else none
    | _ => none
  | _ => none
def kaast (E : List kE) (st : List kV) : Option (List kE × List kV) := match st with
  | some (.inr v) :: some (.inl i) :: some (.inr a) :: t => match E[a]? with
    | some (.inr (5, n, l)) => match E[v]? with
      | some (.inl (7, _)) => if 0 ≤ i ∧ i < (n : Int) ∧ i ≤ 2147483647 then some (E.set a (.inr (5, n, kset (-1) l i.toNat (v : Int))), t) else none
      | _ => none
    | _ => none
  | _ => none
def kalen (E : List kE) (st : List kV) : Option (List kE × List kV) := match st with
  | some (.inr a) :: t => match E[a]? with
    | some (.inr (1, n, _)) => some (E, some (.inl (n : Int)) :: t)
    | _ => none
  | _ => none
def kheap (M : zMeth) (ins : Instr) (E : List kE) (st : List kV) : Option (List kE × List kV) := match ins with
  | .putfield i => kput M i E st
  | .getfield i => kgetf M i E st
  | .iastore => kiast E st
  | .bastore => kzast E st
  | .aastore => kaast E st
  | .arraylength => kalen E st
  | _ => none
section
variable {g : zG} {d : Nat} {M : zMeth} {pc : Nat} {ad : Nat → Nat} {ins : Instr} {E E' : List kE} {st st' : List kV}
theorem kW_get0 {j : Nat} {x : kE} (h : E[j]? = some x) : (kW g ad 0 E)[j]? = some (ad j, kcell g ad x) := by
  have := kW_get (g := g) (ad := ad) E 0 j h
  rw [Nat.zero_add] at this
  exact this
theorem kW_set0 {j : Nat} {x : kE} : (kW g ad 0 E).set j (ad j, kcell g ad x) = kW g ad 0 (E.set j x) := by
  have := kW_set (g := g) (ad := ad) E 0 j x
  rw [Nat.zero_add] at this
  exact this
theorem kupd {n i : Int} {l : List Int} {x : Int} (h : 0 ≤ i ∧ i ≤ 2147483647) : upd (fun j => Int32.ofInt (l.getD j 0)) (Int32.ofInt i).toNatClampNeg (Int32.ofInt x) = fun j => Int32.ofInt ((kset 0 l i.toNat x).getD j 0) := by
  funext j
  rw [zof_toN (by unfold zI32; omega), kset_get]
  unfold upd
  by_cases hj : j = i.toNat
  · rw [if_pos hj, if_pos hj]
  · rw [if_neg hj, if_neg hj]
variable {p : Program} {e : Env} {R : Room} {s : State} {m : MethodId} {args : Array Value} {below : List Frame} {meth : Method} {cc : Code} {H : Heap} {locs : List Loc} {cells slots : Nat} {Q : State → Prop} {ls : Array Slot}
theorem kput_ok {i : Nat} (C : kCx g d M p R s m args meth cc) (hd : decode M.2.1 pc = .ok (.putfield i, 3)) (hr : kRel g ad E H) (hS : va_S (zA g) s.heap H locs) (h : kput M i E st = some (E', st'))
    (kk : ∀ (H' : Heap) (locs' : List Loc), kRel g ad E' H' → va_S (zA g) s.heap H' locs' → W p g.1 e R s m args below meth cc H' locs' cells slots Q (F0 m (pc + 3) ls (st'.map (kval ad)))) : W p g.1 e R s m args below meth cc H locs cells slots Q (F0 m pc ls (st.map (kval ad))) := by
  unfold kput at h
  split at h
  · rename_i v a t
    split at h
    · rename_i c f e1
      split at h
      · rename_i c' fs e2
        split at h
        · rename_i q e3
          split at h
          · rename_i ty e4
            split at h
            · rename_i hc
              cases h
              obtain ⟨⟨rfl, hl⟩, hf, hfin⟩ := hc
              obtain ⟨⟨CN, T, N, p1, p2, p3, p4, -⟩, -⟩ := kpe_ok e1
              cases Option.some.inj (e3.symm.trans p1)
              obtain ⟨w1, w2, ty0, w3⟩ := zCf_ok _ _ _ _ p1
              have link : Cond.fieldLink (zOwn.getD M.2.2.2.2.1 "") i (T f.toNat).1 (T f.toNat).2.1 (T f.toNat).2.2.1 ∈ zTb := by
                rcases p4 with ⟨-, h9⟩ | ⟨h9, -⟩
                · exact h9
                · cases h9
              obtain ⟨n1, n2⟩ := kfit_ok (ad := ad) hf
              have fin : ∀ (H1 : Heap) (locs1 : List Loc), va_P (zD g) vwCl ((kW g ad 0 E).set a (ad a, .inr (c', (fs.map (kval ad)).set f.toNat (kval ad v)))) H1 → va_D (zA g) ((kW g ad 0 E).set a (ad a, .inr (c', (fs.map (kval ad)).set f.toNat (kval ad v)))) → va_S (zA g) s.heap H1 locs1 → W p g.1 e R s m args below meth cc H1 locs1 cells slots Q (F0 m (pc + 3) ls (st'.map (kval ad))) := by
                intro H1 locs1 hP hD hS1
                have e9 : (kW g ad 0 E).set a (ad a, .inr (c', (fs.map (kval ad)).set f.toNat (kval ad v))) = kW g ad 0 (E.set a (.inl (c', fs.set f.toNat v))) := by
                  rw [← kW_set0, ← List.map_set]
                  rfl
                rw [e9] at hP hD
                exact kk H1 locs1 ⟨hP, hD⟩ hS1
              rcases hfin with hfin | ⟨hfin, ho, hin⟩
              · exact va_put (D := zD g) (ci := c') (a := ad a) (v := kval ad v) (ty := ty) (C := CN) (T := T) (N := N) (ref := (T f.toNat).1) C.1 C.2.1 C.2.2.2.2.1 w1 ty0 w3 w2 C.2.2.2.1 C.2.2.2.2.2.1.1 hr.1 hr.2 hS a (kW_get0 e2) p1 f.toNat p2 (C.2.2.2.2.1 _ link) (fun _ h9 => h9) hfin e4 n1 n2 (by rw [List.length_map]; exact hl) hd fin
              · exact va_putF (D := zD g) (ci := c') (a := ad a) (v := kval ad v) (ty := ty) (C := CN) (T := T) (N := N) (ref := (T f.toNat).1) C.1 C.2.1 C.2.2.2.2.1 w1 ty0 w3 w2 C.2.2.2.1 C.2.2.2.2.2.1.1 hr.1 hr.2 hS a (kW_get0 e2) p1 f.toNat p2 (C.2.2.2.2.1 _ link) (fun _ h9 => h9) hfin (C.2.2.2.2.2.2.2.2.1 hin) ho e4 n1 n2 (by rw [List.length_map]; exact hl) hd fin
            · cases h
          · cases h
        · cases h
      · cases h
    · cases h
  · cases h
theorem kgetf_ok {i : Nat} (C : kCx g d M p R s m args meth cc) (hd : decode M.2.1 pc = .ok (.getfield i, 3)) (hr : kRel g ad E H) (h : kgetf M i E st = some (E', st'))
    (kk : kRel g ad E' H → W p g.1 e R s m args below meth cc H locs cells slots Q (F0 m (pc + 3) ls (st'.map (kval ad)))) : W p g.1 e R s m args below meth cc H locs cells slots Q (F0 m pc ls (st.map (kval ad))) := by
  unfold kgetf at h
  split at h
  · rename_i a t
    split at h
    · rename_i c f e1
      split at h
      · rename_i c' fs e2
        split at h
        · rename_i v e3
          split at h
          · rename_i hc
            cases h
            subst hc
            obtain ⟨⟨CN, T, N, p1, p2, p3, p4, -⟩, -⟩ := kpe_ok e1
            have link : Cond.fieldLink (zOwn.getD M.2.2.2.2.1 "") i (T f.toNat).1 (T f.toNat).2.1 (T f.toNat).2.2.1 ∈ zTb := by
              rcases p4 with ⟨-, h9⟩ | ⟨h9, -⟩
              · exact h9
              · cases h9
            exact va_get (D := zD g) (ci := c') (a := ad a) (v := kval ad v) (C := CN) (T := T) (N := N) (ref := (T f.toNat).1) C.1 C.2.1 C.2.2.2.2.1 (zCf_ok _ _ _ _ p1).1 C.2.2.2.1 C.2.2.2.2.2.1.1 hr.1 a (kW_get0 e2) p1 f.toNat p2 (C.2.2.2.2.1 _ link) (fun _ h9 => h9) (by rw [List.getElem?_map, e3]; rfl) hd (kk hr)
          · cases h
        · cases h
      · cases h
    · cases h
  · cases h
theorem kiast_ok (C : kCx g d M p R s m args meth cc) (hd : decode M.2.1 pc = .ok (.iastore, 1)) (hr : kRel g ad E H) (hS : va_S (zA g) s.heap H locs) (h : kiast E st = some (E', st'))
    (kk : ∀ (H' : Heap) (locs' : List Loc), kRel g ad E' H' → va_S (zA g) s.heap H' locs' → W p g.1 e R s m args below meth cc H' locs' cells slots Q (F0 m (pc + 1) ls (st'.map (kval ad)))) : W p g.1 e R s m args below meth cc H locs cells slots Q (F0 m pc ls (st.map (kval ad))) := by
  unfold kiast at h
  split at h
  · rename_i x i a t
    split at h
    · rename_i n l e1
      split at h
      · rename_i hc
        cases h
        have z : zI32 i := by unfold zI32; omega
        refine va_iast (D := zD g) (a := ad a) (f := fun j => Int32.ofInt (l.getD j 0)) (i := Int32.ofInt i) (x := Int32.ofInt x) C.1 C.2.1 C.2.2.2.2.2.1.1 hr.1 hr.2 hS a 0 (kW_get0 e1) rfl (zvp_in z ⟨hc.1, hc.2.1⟩) hd (fun H1 locs1 hP hD hS1 => ?_)
        rw [kupd (n := 0) ⟨hc.1, hc.2.2⟩] at hP hD
        exact kk H1 locs1 ⟨by rw [← kW_set0]; exact hP, by rw [← kW_set0]; exact hD⟩ hS1
      · cases h
    · cases h
  · cases h
theorem kzast_ok (C : kCx g d M p R s m args meth cc) (hd : decode M.2.1 pc = .ok (.bastore, 1)) (hr : kRel g ad E H) (hS : va_S (zA g) s.heap H locs) (h : kzast E st = some (E', st'))
    (kk : ∀ (H' : Heap) (locs' : List Loc), kRel g ad E' H' → va_S (zA g) s.heap H' locs' → W p g.1 e R s m args below meth cc H' locs' cells slots Q (F0 m (pc + 1) ls (st'.map (kval ad)))) : W p g.1 e R s m args below meth cc H locs cells slots Q (F0 m pc ls (st.map (kval ad))) := by
  unfold kzast at h
  split at h
  · rename_i x i a t
    split at h
    · rename_i n l e1
      split at h
      · rename_i hc
        cases h
        obtain ⟨hc, rfl⟩ := hc
        have z : zI32 i := by unfold zI32; omega
        refine va_zast (D := zD g) (a := ad a) (f := fun j => Int32.ofInt (l.getD j 0)) (i := Int32.ofInt i) (x := Int32.ofInt 0) C.1 C.2.1 C.2.2.2.2.2.1.1 hr.1 hr.2 hS a 1 (kW_get0 e1) rfl (zvp_in z ⟨hc.1, hc.2.1⟩) hd (fun H1 locs1 hP hD hS1 => ?_)
        have e9 := kupd (n := 0) (l := l) (x := 0) ⟨hc.1, hc.2.2⟩
        refine kk H1 locs1 ⟨?_, ?_⟩ hS1
        · rw [← kW_set0]
          show va_P (zD g) vwCl ((kW g ad 0 E).set a (ad a, .inl (zcA g 1, n, .inl (fun j => Int32.ofInt ((kset 0 l i.toNat 0).getD j 0))))) H1
          rw [← e9]
          exact hP
        · rw [← kW_set0]
          show va_D (zA g) ((kW g ad 0 E).set a (ad a, .inl (zcA g 1, n, .inl (fun j => Int32.ofInt ((kset 0 l i.toNat 0).getD j 0)))))
          rw [← e9]
          exact hD
      · cases h
    · cases h
  · cases h
theorem kaast_ok (C : kCx g d M p R s m args meth cc) (hd : decode M.2.1 pc = .ok (.aastore, 1)) (hr : kRel g ad E H) (hS : va_S (zA g) s.heap H locs) (h : kaast E st = some (E', st'))
    (kk : ∀ (H' : Heap) (locs' : List Loc), kRel g ad E' H' → va_S (zA g) s.heap H' locs' → W p g.1 e R s m args below meth cc H' locs' cells slots Q (F0 m (pc + 1) ls (st'.map (kval ad)))) : W p g.1 e R s m args below meth cc H locs cells slots Q (F0 m pc ls (st.map (kval ad))) := by
  unfold kaast at h
  split at h
  · rename_i v i a t
    split at h
    · rename_i n l e1
      split at h
      · rename_i vs e2
        split at h
        · rename_i hc
          cases h
          have z : zI32 i := by unfold zI32; omega
          refine va_astq (D := zD g) (a := ad a) (v := ad v) (ci := 7) (r := (RX7, TX7, 7)) (f := fun j => kq ad (l.getD j (-1))) (i := Int32.ofInt i) C.1 C.2.1 C.2.2.2.2.2.1.1 hr.1 hr.2 hS a 4 v (kW_get0 e1) rfl (kW_get0 e2) rfl (zvp_in z ⟨hc.1, hc.2.1⟩) hd (fun H1 locs1 hP hD hS1 => ?_)
          have e9 : va_up (fun j => kq ad (l.getD j (-1))) (Int32.ofInt i).toNatClampNeg (some (ad v)) = fun j => kq ad ((kset (-1) l i.toNat (v : Int)).getD j (-1)) := by
            funext j
            rw [zof_toN z, kset_get]
            unfold va_up
            by_cases hj : j = i.toNat
            · rw [if_pos hj, if_pos hj]
              unfold kq
              rw [if_neg (by omega)]
              rfl
            · rw [if_neg hj, if_neg hj]
          rw [e9] at hP hD
          exact kk H1 locs1 ⟨by rw [← kW_set0]; exact hP, by rw [← kW_set0]; exact hD⟩ hS1
        · cases h
      · cases h
    · cases h
  · cases h
theorem kalen_ok (C : kCx g d M p R s m args meth cc) (hd : decode M.2.1 pc = .ok (.arraylength, 1)) (hr : kRel g ad E H) (h : kalen E st = some (E', st'))
    (kk : kRel g ad E' H → W p g.1 e R s m args below meth cc H locs cells slots Q (F0 m (pc + 1) ls (st'.map (kval ad)))) : W p g.1 e R s m args below meth cc H locs cells slots Q (F0 m pc ls (st.map (kval ad))) := by
  unfold kalen at h
  split at h
  · rename_i a t
    split at h
    · rename_i n l e1
      cases h
      exact va_alen (D := zD g) (a := ad a) (v := Int32.ofInt (n : Int)) C.1 C.2.1 C.2.2.2.2.2.1.1 hr.1 a 0 (kW_get0 e1) rfl Int32.ofInt_eq_ofNat.symm hd (kk hr)
    · cases h
  · cases h
theorem kheap_ok (C : kCx g d M p R s m args meth cc) (hd : decode M.2.1 pc = .ok (ins, klen ins)) (hr : kRel g ad E H) (hS : va_S (zA g) s.heap H locs) (h : kheap M ins E st = some (E', st'))
    (kk : ∀ (H' : Heap) (locs' : List Loc), kRel g ad E' H' → va_S (zA g) s.heap H' locs' → W p g.1 e R s m args below meth cc H' locs' cells slots Q (F0 m (pc + klen ins) ls (st'.map (kval ad)))) : W p g.1 e R s m args below meth cc H locs cells slots Q (F0 m pc ls (st.map (kval ad))) := by
  unfold kheap at h
  split at h
  · exact kput_ok C hd hr hS h kk
  · exact kgetf_ok C hd hr h (fun h9 => kk H locs h9 hS)
  · exact kiast_ok C hd hr hS h kk
  · exact kzast_ok C hd hr hS h kk
  · exact kaast_ok C hd hr hS h kk
  · exact kalen_ok C hd hr h (fun h9 => kk H locs h9 hS)
  · cases h
end
