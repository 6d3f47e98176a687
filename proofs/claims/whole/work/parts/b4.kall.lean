-- needs b3
/-! cells made -/
def kdf : zFI → kV
  | .inl _ => some (.inl 0)
  | _ => none
def kdef (c : Nat) : List kV := (zFl.getD c []).map kdf
/-- the constructors' places of `new`: the owner, the pool's entry, the class -/
def kNew : List (Nat × Nat × Nat) := [(11, 7, 4), (11, 16, 3), (11, 23, 6), (11, 30, 5), (11, 37, 7), (11, 44, 10), (11, 53, 9), (11, 62, 0), (11, 71, 1), (11, 80, 8), (11, 87, 2), (2, 9, 7), (9, 11, 7), (13, 8, 11), (13, 20, 12)]
def kfind (own i : Nat) : List (Nat × Nat × Nat) → Option Nat
  | [] => none
  | q :: l => bif Nat.beq q.1 own && Nat.beq q.2.1 i then some q.2.2 else kfind own i l
theorem kfind_mem {own i c : Nat} : ∀ (l : List (Nat × Nat × Nat)), kfind own i l = some c → (own, i, c) ∈ l
  | [], h => by cases h
  | q :: l, h => by
    unfold kfind at h
    cases hb : (Nat.beq q.1 own && Nat.beq q.2.1 i)
    · rw [hb] at h
      exact List.mem_cons_of_mem _ (kfind_mem l h)
    · rw [hb] at h
      cases h
      rw [Bool.and_eq_true] at hb
      rw [← Nat.eq_of_beq_eq_true hb.1, ← Nat.eq_of_beq_eq_true hb.2]
      exact List.mem_cons_self
def kdt (ty : Option FieldType) (v : Option kV) : Bool := match ty, v with
  | some .int, some (some (.inl 0)) => true
  | some .boolean, some (some (.inl 0)) => true
  | some (.object _), some none => true
  | some (.array _), some none => true
  | _, _ => false
def kNok (q : Nat × Nat × Nat) : Bool := match vwCl[q.2.2]? with
  | some r => zin (Cond.classLink (zOwn.getD q.1 "") q.2.1 r.1) && (zin (Cond.instantiable r.1 r.2.2) && (zin (Cond.initialized r.1) && (List.range r.2.2).all (fun j => kdt (parseFieldDescriptor (r.2.1 j).2.2.1) (kdef q.2.2)[j]?)))
  | none => false
theorem kNew_ok : kNew.all kNok = true := by decide +kernel
theorem kAn_ok : zin (Cond.classLink (zOwn.getD 9 "") 11 RX7) = true ∧ zin (Cond.classLink (zOwn.getD 11 "") 37 RX7) = true := by decide +kernel
theorem kAr_ok : zin (Cond.arrayClass .int) = true ∧ zin (Cond.arrayClass .boolean) = true ∧ zin (Cond.arrayClass .byte) = true ∧ zin (Cond.arrayClass .long) = true := by decide +kernel
def karr (t : Nat) (st : List kV) : Option (kE × List kV × Nat) := match st with
  | some (.inl k) :: r => if 0 ≤ k ∧ k ≤ 100000 then some (.inr (t, k.toNat, []), r, k.toNat) else none
  | _ => none
def kall (M : zMeth) (ins : Instr) (st : List kV) : Option (kE × List kV × Nat) := match ins with
  | .new i => match kfind M.2.2.2.2.1 i kNew with
    | some c => match vwCl[c]? with
      | some r => some (.inl (c, kdef c), st, r.2.2)
      | none => none
    | none => none
  | .newarray .int => karr 1 st
  | .newarray .boolean => karr 2 st
  | .newarray .byte => karr 3 st
  | .newarray .long => karr 4 st
  | .anewarray i => if (M.2.2.2.2.1 = 9 ∧ i = 11) ∨ (M.2.2.2.2.1 = 11 ∧ i = 37) then karr 5 st else none
  | _ => none
theorem kdf_ok (N : Nat) (fi : zFI) : kokv N (kdf fi) = true := by
  rcases fi with _ | _ <;> rfl
theorem kdef_ok (N c : Nat) : (kdef c).all (kokv N) = true := List.all_eq_true.mpr (fun v hv => by
  obtain ⟨fi, _, rfl⟩ := List.mem_map.mp hv
  exact kdf_ok N fi)
section
variable {g : zG} {d : Nat} {M : zMeth} {pc : Nat} {ad : Nat → Nat} {ins : Instr} {E E' : List kE} {st st' : List kV} {x : kE} {n : Nat}
variable {p : Program} {e : Env} {R : Room} {s : State} {m : MethodId} {args : Array Value} {below : List Frame} {meth : Method} {cc : Code} {H : Heap} {locs : List Loc} {cells slots : Nat} {Q : State → Prop} {ls : Array Slot}
def kad (ad : Nat → Nat) (N q : Nat) : Nat → Nat := fun j => if j = N then q else ad j
theorem kad_lt {N q : Nat} : ∀ j, j < N → kad ad N q j = ad j := fun j hj => if_neg (by omega)
theorem kad_eq {N q : Nat} : kad ad N q N = q := if_pos rfl
/-- a cell more -/
theorem kRel_app {q : Nat} {H1 : Heap} (hk : kok E.length E = true) (hx : kokE E.length x = true) (hP : va_P (zD g) vwCl (kW g ad 0 E ++ [(q, kcell g ad x)]) H1) (hD : va_D (zA g) (kW g ad 0 E ++ [(q, kcell g ad x)])) : kRel g (kad ad E.length q) (E ++ [x]) H1 := by
  have e9 : kW g (kad ad E.length q) 0 (E ++ [x]) = kW g ad 0 E ++ [(q, kcell g ad x)] := by
    rw [kW_app, kW_ad kad_lt E 0 hk (by omega), kcell_ad kad_lt hx, Nat.zero_add, kad_eq]
  exact ⟨by rw [e9]; exact hP, by rw [e9]; exact hD⟩
theorem kstk {q : Nat} (hk : kokl E.length st = true) : (some (.inr E.length) :: st).map (kval (kad ad E.length q)) = .ref q :: st.map (kval ad) := by
  rw [List.map_cons, kvals_ad kad_lt hk]
  show Value.ref (kad ad E.length q E.length) :: _ = _
  rw [kad_eq]
theorem karr_ok {t i : Nat} {aty : ArrayType} {ty : FieldType} {a0 : Nat → vp_A} (C : kCx g d M p R s m args meth cc) (hd : decode M.2.1 pc = .ok (.newarray aty, 2)) (hty : newarray.typeOf aty = ty) (hw : zin (Cond.arrayClass ty) = true) (ht : (zTy g)[i]? = some (zcA g i, ty)) (hn : ∀ c1 c2 : ClassId, va_RA s c1 ty → va_RA s c2 ty → c1 = c2)
    (hc : ∀ N : Nat, kcell g ad (.inr (t, N, [])) = .inl (zcA g i, a0 N)) (ha : ∀ (N : Nat) (cA : ClassId), vp_cell cA (a0 N) = arrV cA N (fun _ => defaultValue ty)) (hcb : componentBytes ty ≤ 8)
    (hr : kRel g ad E H) (hS : va_S (zA g) s.heap H locs) (h : karr t st = some (x, st', n)) (hk : kok E.length E = true) (hkl : kokl E.length st' = true) (hf : cells + 1 ≤ R.cells ∧ slots + n ≤ R.slots)
    (kk : ∀ (ad' : Nat → Nat) (H' : Heap), (∀ j, j < E.length → ad' j = ad j) → kRel g ad' (E ++ [x]) H' → va_S (zA g) s.heap H' locs → W p g.1 e R s m args below meth cc H' locs (cells + 1) (slots + n) Q (F0 m (pc + 2) ls ((some (.inr E.length) :: st').map (kval ad')))) : W p g.1 e R s m args below meth cc H locs cells slots Q (F0 m pc ls (st.map (kval ad))) := by
  unfold karr at h
  split at h
  · rename_i k r
    split at h
    · rename_i hk0
      cases h
      have z : zI32 k := by unfold zI32; omega
      have hb : k.toNat * componentBytes ty ≤ 536870912 := Nat.le_trans (Nat.mul_le_mul (show k.toNat ≤ 100000 by omega) hcb) (by decide)
      subst hty
      refine va_newa (D := zD g) (n := Int32.ofInt k) (N' := k.toNat) (a0 := a0 k.toNat) C.1 C.2.1 (C.2.2.2.2.1 _ (zin_ok hw)) rfl C.2.2.2.2.2.1.1 hr.1 hr.2 hS (fun q hq => Nat.le_trans C.2.2.2.2.2.2.2.2.2 hq) (ha k.toNat) (fun q => absurd ((zof_lt z zI32_0).mp q) (by omega)) (zof_toN z) hb hf.1 hf.2 hd (fun q cA H1 hK hP hD hS1 => ?_)
      have e9 : cA = zcA g i := hn _ _ (hK.2 5 _ rfl).2 (C.2.2.2.2.2.1.1.2 i _ ht).2
      rw [e9, ← hc] at hP hD
      have := kk (kad ad E.length q) H1 kad_lt (kRel_app hk rfl hP hD) hS1
      rw [kstk hkl] at this
      exact this
    · cases h
  · cases h
theorem kRA {ty : FieldType} (h : ∀ C : String, ¬ ty = .object C) : ∀ c1 c2 : ClassId, va_RA s c1 ty → va_RA s c2 ty → c1 = c2 := by
  intro c1 c2 h1 h2
  cases ty with
  | object C => exact absurd rfl (h C)
  | _ => exact Option.some.inj (h1.symm.trans h2)
theorem kall_ok (C : kCx g d M p R s m args meth cc) (hd : decode M.2.1 pc = .ok (ins, klen ins)) (hr : kRel g ad E H) (hS : va_S (zA g) s.heap H locs) (h : kall M ins st = some (x, st', n)) (hk : kok E.length E = true) (hkl : kokl E.length st' = true) (hf : cells + 1 ≤ R.cells ∧ slots + n ≤ R.slots)
    (kk : ∀ (ad' : Nat → Nat) (H' : Heap), (∀ j, j < E.length → ad' j = ad j) → kRel g ad' (E ++ [x]) H' → va_S (zA g) s.heap H' locs → W p g.1 e R s m args below meth cc H' locs (cells + 1) (slots + n) Q (F0 m (pc + klen ins) ls ((some (.inr E.length) :: st').map (kval ad')))) : W p g.1 e R s m args below meth cc H locs cells slots Q (F0 m pc ls (st.map (kval ad))) := by
  have hA : ∀ q, s.heap.size ≤ q → zA g q := fun q hq => Nat.le_trans C.2.2.2.2.2.2.2.2.2 hq
  unfold kall at h
  split at h
  · split at h
    · rename_i i _ c e1
      split at h
      · rename_i r e2
        cases h
        have w := List.all_eq_true.mp kNew_ok _ (kfind_mem _ e1)
        unfold kNok at w
        rw [e2] at w
        simp only [Bool.and_eq_true] at w
        obtain ⟨w1, w2, w3, w4⟩ := w
        obtain ⟨CN, T, N⟩ := r
        obtain ⟨u1, u2, ty0, u3⟩ := zCf_ok _ _ _ _ e2
        refine va_new (D := zD g) (ci := c) (C := CN) (T := T) (N := N) (fs := (kdef c).map (kval ad)) C.1 C.2.1 C.2.2.2.2.1 u1 ty0 u3 C.2.2.2.1 (C.2.2.2.2.1 _ (zin_ok w1)) (C.2.2.2.2.1 _ (zin_ok w2)) (C.2.2.2.2.1 _ (zin_ok w3)) C.2.2.2.2.2.1.1 hr.1 hr.2 hS hA e2 (fun j hj => ?_) hf.1 hf.2 hd (fun q H1 hP hD hS1 => ?_)
        · have v := List.all_eq_true.mp w4 j (List.mem_range.mpr hj)
          rw [u3 j hj] at v
          unfold vp_V
          rw [List.getD_eq_getElem?_getD, List.getElem?_map]
          unfold kdt at v
          split at v
          · rename_i f1 f2
            rw [f2, Option.some.inj f1]
            rfl
          · rename_i f1 f2
            rw [f2, Option.some.inj f1]
            rfl
          · rename_i f1 f2
            rw [f2, Option.some.inj f1]
            rfl
          · rename_i f1 f2
            rw [f2, Option.some.inj f1]
            rfl
          · cases v
        · have := kk (kad ad E.length q) H1 kad_lt (kRel_app (x := .inl (c, kdef c)) hk (kdef_ok _ c) hP hD) hS1
          rw [kstk hkl] at this
          exact this
      · cases h
    · cases h
  · exact karr_ok (t := 1) (i := 0) (ty := .int) (a0 := fun N => (N, .inl (fun j => Int32.ofInt (([] : List Int).getD j 0)))) C hd rfl kAr_ok.1 rfl (kRA (fun _ q => by cases q)) (fun _ => rfl) (fun N cA => by rw [vp_cell_i]; rfl) (by decide) hr hS h hk hkl hf kk
  · exact karr_ok (t := 2) (i := 1) (ty := .boolean) (a0 := fun N => (N, .inl (fun j => Int32.ofInt (([] : List Int).getD j 0)))) C hd rfl kAr_ok.2.1 rfl (kRA (fun _ q => by cases q)) (fun _ => rfl) (fun N cA => by rw [vp_cell_i]; rfl) (by decide) hr hS h hk hkl hf kk
  · exact karr_ok (t := 3) (i := 2) (ty := .byte) (a0 := fun N => (N, .inl (fun j => Int32.ofInt (([] : List Int).getD j 0)))) C hd rfl kAr_ok.2.2.1 rfl (kRA (fun _ q => by cases q)) (fun _ => rfl) (fun N cA => by rw [vp_cell_i]; rfl) (by decide) hr hS h hk hkl hf kk
  · exact karr_ok (t := 4) (i := 3) (ty := .long) (a0 := fun N => (N, .inr (.inl (fun j => Int64.ofInt (([] : List Int).getD j 0))))) C hd rfl kAr_ok.2.2.2 rfl (kRA (fun _ q => by cases q)) (fun _ => rfl) (fun N cA => by rw [vp_cell_l]; rfl) (by decide) hr hS h hk hkl hf kk
  · rename_i i
    split at h
    · rename_i hsite
      unfold karr at h
      split at h
      · rename_i k r
        split at h
        · rename_i hk0
          cases h
          have z : zI32 k := by unfold zI32; omega
          have hcl : Cond.classLink (zOwn.getD M.2.2.2.2.1 "") i RX7 ∈ zTb := by
            rcases hsite with ⟨q1, q2⟩ | ⟨q1, q2⟩
            · rw [q1, q2]; exact zin_ok kAn_ok.1
            · rw [q1, q2]; exact zin_ok kAn_ok.2
          refine va_newq (D := zD g) (C := RX7) (n := Int32.ofInt k) (N' := k.toNat) C.1 C.2.1 C.2.2.2.1 (C.2.2.2.2.1 _ hcl) C.2.2.2.2.2.1.2.1 C.2.2.2.2.2.1.1 hr.1 hr.2 hS hA (fun q => absurd ((zof_lt z zI32_0).mp q) (by omega)) (zof_toN z) (by omega) hf.1 hf.2 hd (fun q cA H1 hK hP hD hS1 => ?_)
          have e9 : cA = zcA g 4 := by
            obtain ⟨_, _, _, _, _, r1⟩ := (hK.2 5 _ rfl).2
            obtain ⟨_, _, _, _, _, r2⟩ := (C.2.2.2.2.2.1.1.2 4 _ rfl).2
            exact Option.some.inj (r1.symm.trans r2)
          rw [e9] at hP hD
          have := kk (kad ad E.length q) H1 kad_lt (kRel_app (x := .inr (5, k.toNat, [])) hk rfl hP hD) hS1
          rw [kstk hkl] at this
          exact this
        · cases h
      · cases h
    · cases h
  · cases h
end
