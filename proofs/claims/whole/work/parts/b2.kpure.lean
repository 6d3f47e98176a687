-- needs b1
/-! the constructors' instructions, one by one -/
def klen : Instr → Nat
  | .aload_n _ => 1
  | .iload_n _ => 1
  | .iconst _ => 1
  | .dup => 1
  | .istore_n _ => 1
  | .iastore => 1
  | .bastore => 1
  | .aastore => 1
  | .arraylength => 1
  | .return_ => 1
  | .aload _ => 2
  | .iload _ => 2
  | .bipush _ => 2
  | .ldc _ => 2
  | .istore _ => 2
  | .newarray _ => 2
  | _ => 3
def kpure (M : zMeth) (ins : Instr) (lv : List (Nat × kV)) (st : List kV) : Option (List (Nat × kV) × List kV) := match ins with
  | .aload_n k => match klook lv k with
    | some (some (.inr a)) => some (lv, some (.inr a) :: st)
    | _ => none
  | .aload k => match klook lv k with
    | some (some (.inr a)) => some (lv, some (.inr a) :: st)
    | _ => none
  | .iload_n k => match klook lv k with
    | some (some (.inl a)) => some (lv, some (.inl a) :: st)
    | _ => none
  | .iload k => match klook lv k with
    | some (some (.inl a)) => some (lv, some (.inl a) :: st)
    | _ => none
  | .iconst n => some (lv, some (.inl n) :: st)
  | .bipush n => if -128 ≤ n ∧ n ≤ 127 then some (lv, some (.inl n) :: st) else none
  | .sipush n => if -32768 ≤ n ∧ n ≤ 32767 then some (lv, some (.inl n) :: st) else none
  | .ldc i => match kpe M.2.2.2.2.1 i with
    | some (4, _, v) => some (lv, some (.inl v) :: st)
    | _ => none
  | .dup => match st with
    | v :: t => some (lv, v :: v :: t)
    | [] => none
  | .istore_n k => match st with
    | some (.inl a) :: t => if (k : Nat) < M.2.2.1 then some (kst lv k (some (.inl a)), t) else none
    | _ => none
  | .istore k => match st with
    | some (.inl a) :: t => if k < M.2.2.1 then some (kst lv k (some (.inl a)), t) else none
    | _ => none
  | .iinc i n => match klook lv i with
    | some (some (.inl a)) => if i < M.2.2.1 then some (kst lv i (some (.inl (a + n))), st) else none
    | _ => none
  | _ => none
def kjmp (pc : Nat) (ins : Instr) (st : List kV) : Option (Int × List kV) := match ins with
  | .goto off => some ((pc : Int) + off, st)
  | .if_icmp .ge off => match st with
    | some (.inl y) :: some (.inl x) :: t => if (-2147483648 ≤ x ∧ x ≤ 2147483647) ∧ (-2147483648 ≤ y ∧ y ≤ 2147483647) ∧ 0 ≤ (pc : Int) + off then (if x < y then some ((pc : Int) + 3, t) else some ((pc : Int) + off, t)) else none
    | _ => none
  | .if_icmp .gt off => match st with
    | some (.inl y) :: some (.inl x) :: t => if (-2147483648 ≤ x ∧ x ≤ 2147483647) ∧ (-2147483648 ≤ y ∧ y ≤ 2147483647) ∧ 0 ≤ (pc : Int) + off then (if y < x then some ((pc : Int) + off, t) else some ((pc : Int) + 3, t)) else none
    | _ => none
  | _ => none
section
variable {g : zG} {d : Nat} {M : zMeth} {pc : Nat} {ad : Nat → Nat} {ins : Instr} {lv lv' : List (Nat × kV)} {st st' : List kV}
variable {p : Program} {e : Env} {R : Room} {s : State} {m : MethodId} {args : Array Value} {below : List Frame} {meth : Method} {cc : Code} {H : Heap} {locs : List Loc} {cells slots : Nat} {Q : State → Prop} {ls : Array Slot}
theorem kpure_ok (C : kCx g d M p R s m args meth cc) (hd : decode M.2.1 pc = .ok (ins, klen ins)) (hl : lv_has ls M.2.2.1 (kL ad lv)) (h : kpure M ins lv st = some (lv', st'))
    (kk : ∀ ls' : Array Slot, lv_has ls' M.2.2.1 (kL ad lv') → W p g.1 e R s m args below meth cc H locs cells slots Q (F0 m (pc + klen ins) ls' (st'.map (kval ad)))) : W p g.1 e R s m args below meth cc H locs cells slots Q (F0 m pc ls (st.map (kval ad))) := by
  unfold kpure at h
  split at h
  · split at h
    · rename_i k _ a e9
      cases h
      exact lv_aload_n C.1 C.2.1 hd rfl (kL_at hl e9) (kk ls hl)
    · cases h
  · split at h
    · rename_i k _ a e9
      cases h
      exact lv_aload C.1 C.2.1 hd (kL_at hl e9) (kk ls hl)
    · cases h
  · split at h
    · rename_i k _ a e9
      cases h
      exact lv_iload_n C.1 C.2.1 hd rfl (kL_at hl e9) (kk ls hl)
    · cases h
  · split at h
    · rename_i k _ a e9
      cases h
      exact lv_iload C.1 C.2.1 hd (kL_at hl e9) (kk ls hl)
    · cases h
  · cases h
    exact lv_iconst C.1 C.2.1 hd rfl (kk ls hl)
  · split at h
    · rename_i n hn
      cases h
      exact lv_bipush C.1 C.2.1 hd (zof_8 hn) (kk ls hl)
    · cases h
  · split at h
    · rename_i n hn
      cases h
      exact lv_sipush C.1 C.2.1 hd (zof_16 hn) (kk ls hl)
    · cases h
  · split at h
    · rename_i i _ q v e9
      cases h
      have w := kpe_ok e9
      exact lv_ldc C.1 C.2.1 C.2.2.2.1 (C.2.2.2.2.1 _ w.2) hd (kk ls hl)
    · cases h
  · split at h
    · rename_i v t
      cases h
      exact lv_dup C.1 C.2.1 hd (kval_cat ad v) (kk ls hl)
    · cases h
  · split at h
    · rename_i k a t
      split at h
      · rename_i hk
        cases h
        exact lv_istore_n C.1 C.2.1 hd rfl hl hk (kL_st (v := some (.inl a))) (fun ls' h9 => kk ls' h9)
      · cases h
    · cases h
  · split at h
    · rename_i k a t
      split at h
      · rename_i hk
        cases h
        exact lv_istore C.1 C.2.1 hd hl hk (kL_st (v := some (.inl a))) (fun ls' h9 => kk ls' h9)
      · cases h
    · cases h
  · split at h
    · rename_i i n _ a e9
      split at h
      · rename_i hk
        cases h
        have hm := klook_mem _ _ _ e9
        obtain ⟨j, hj⟩ := List.getElem?_of_mem (show (i, kval ad (some (.inl a))) ∈ kL ad lv from List.mem_map.mpr ⟨_, hm, rfl⟩)
        exact lv_iinc (k := j) (x := Int32.ofInt a) (v := Int32.ofInt (a + n)) C.1 C.2.1 hd hl hj (by rw [Int32.ofInt_add]) hk (kL_st (v := some (.inl (a + n)))) (fun ls' h9 => kk ls' h9)
      · cases h
    · cases h
  · cases h
theorem kjmp_ok {tgt : Int} (C : kCx g d M p R s m args meth cc) (hd : decode M.2.1 pc = .ok (ins, klen ins)) (h : kjmp pc ins st = some (tgt, st'))
    (kk : ∀ t : Nat, (t : Int) = tgt → W p g.1 e R s m args below meth cc H locs cells slots Q (F0 m t ls (st'.map (kval ad)))) (h0 : 0 ≤ tgt) : W p g.1 e R s m args below meth cc H locs cells slots Q (F0 m pc ls (st.map (kval ad))) := by
  have ht : ((tgt.toNat : Nat) : Int) = tgt := by omega
  unfold kjmp at h
  split at h
  · cases h
    exact lv_goto C.1 C.2.1 hd ht.symm (kk _ ht)
  · split at h
    · rename_i off _ y x t
      split at h
      · rename_i hz
        split at h
        · rename_i hc
          cases h
          exact lv_icmp_ge (x := Int32.ofInt x) (y := Int32.ofInt y) (tgt := ((pc : Int) + off).toNat) C.1 C.2.1 hd (by omega) (fun q => absurd ((zof_le hz.2.1 hz.1).mp q) (by omega)) (fun _ => kk (pc + 3) (by omega))
        · rename_i hc
          cases h
          exact lv_icmp_ge (x := Int32.ofInt x) (y := Int32.ofInt y) (tgt := ((pc : Int) + off).toNat) C.1 C.2.1 hd (by omega) (fun _ => kk _ ht) (fun q => absurd ((zof_le hz.2.1 hz.1).mpr (by omega)) q)
      · cases h
    · cases h
  · split at h
    · rename_i off _ y x t
      split at h
      · rename_i hz
        split at h
        · rename_i hc
          cases h
          exact lv_icmp_gt (x := Int32.ofInt x) (y := Int32.ofInt y) (tgt := ((pc : Int) + off).toNat) C.1 C.2.1 hd (by omega) (fun _ => kk _ ht) (fun q => absurd ((zof_lt hz.2.1 hz.1).mpr hc) q)
        · rename_i hc
          cases h
          exact lv_icmp_gt (x := Int32.ofInt x) (y := Int32.ofInt y) (tgt := ((pc : Int) + off).toNat) C.1 C.2.1 hd (by omega) (fun q => absurd ((zof_lt hz.2.1 hz.1).mp q) hc) (fun _ => kk (pc + 3) (by omega))
      · cases h
    · cases h
  · cases h
end
