-- needs b9
/-! the law's entry: both objects made, the law's own long[1], to the head of its loop -/
theorem kL_0 : decode mLaw.2.1 0 = .ok (.new 8, klen (.new 8)) := by decide +kernel
theorem kL_3 : decode mLaw.2.1 3 = .ok (.dup, 1) := by decide +kernel
theorem kL_4 : decode mLaw.2.1 4 = .ok (.invokespecial 19, klen (.invokespecial 19)) := by decide +kernel
theorem kL_7 : decode mLaw.2.1 7 = .ok (.astore_n 1, 1) := by decide +kernel
theorem kL_8 : decode mLaw.2.1 8 = .ok (.new 20, klen (.new 20)) := by decide +kernel
theorem kL_11 : decode mLaw.2.1 11 = .ok (.dup, 1) := by decide +kernel
theorem kL_12 : decode mLaw.2.1 12 = .ok (.invokespecial 22, klen (.invokespecial 22)) := by decide +kernel
theorem kL_15 : decode mLaw.2.1 15 = .ok (.astore_n 2, 1) := by decide +kernel
theorem kL_16 : decode mLaw.2.1 16 = .ok (.iconst 1, 1) := by decide +kernel
theorem kL_17 : decode mLaw.2.1 17 = .ok (.newarray .long, klen (.newarray .long)) := by decide +kernel
theorem kL_19 : decode mLaw.2.1 19 = .ok (.astore_n 3, 1) := by decide +kernel
theorem kL_20 : decode mLaw.2.1 20 = .ok (.iconst 0, 1) := by decide +kernel
theorem kL_21 : decode mLaw.2.1 21 = .ok (.istore 4, 2) := by decide +kernel
theorem kE1_len : kE1.length = 119 := by decide +kernel
theorem kE2_len : kE2.length = 176 := by decide +kernel
theorem kE1_ok : kok 119 kE1 = true := by decide +kernel
theorem kE2_ok : kok 176 kE2 = true := by decide +kernel
theorem kal_0 : kall mLaw (.new 8) [] = some (.inl (11, kdef 11), [], 14) := rfl
theorem kal_8 : kall mLaw (.new 20) [] = some (.inl (12, kdef 12), [], 84) := rfl
theorem kal_17 : kall mLaw (.newarray .long) [some (.inl 1)] = some (.inr (4, 1, []), [], 1) := by
  have e : kall mLaw (.newarray .long) [some (.inl 1)] = karr 4 [some (.inl 1)] := by simp only [kall]
  rw [e]
  show (if (0 : Int) ≤ 1 ∧ (1 : Int) ≤ 100000 then some ((Sum.inr (4, (1 : Int).toNat, []), [], (1 : Int).toNat) : kE × List kV × Nat) else none) = _
  rw [if_pos (by decide)]
  rfl
theorem kcl_4 (E : List kE) : kcl mLaw (.invokespecial 19) E [some (.inr 0), some (.inr 0)] = some (11, [some (.inr 0)], [some (.inr 0)]) := rfl
theorem kcl_12 (E : List kE) : kcl mLaw (.invokespecial 22) E [some (.inr 119), some (.inr 119)] = some (12, [some (.inr 119)], [some (.inr 119)]) := rfl
section
variable {g : zG} {ad : Nat → Nat}
theorem kmet11 : kMet g 20 (kMt 11) ad [.inl (11, kdef 11)] [some (.inr 0)] kE1 118 1942 :=
  kMet.intro (kKn_ok rfl) (kret rfl) (by decide +kernel) (krun_sound 2000 20 (kMt 11) (kMt 11).2.2.2.2.2 _ _ _ _ _ _ (kKn_ok rfl) ⟨[], rfl⟩ kev1 0 (kfst (n := 11) rfl) ad)
theorem kmet12 : kMet g 20 (kMt 12) ad (kE1 ++ [.inl (12, kdef 12)]) [some (.inr 119)] kE2 56 38258 :=
  kMet.intro (kKn_ok rfl) (kret rfl) (by decide +kernel) (krun_sound 2000 20 (kMt 12) (kMt 12).2.2.2.2.2 _ _ _ _ _ _ (kKn_ok rfl) ⟨[], rfl⟩ kev2 0 (kfst (n := 12) rfl) ad)
variable {p : Program} {e : Env} {R : Room} {s : State} {m : MethodId} {args : Array Value} {below : List Frame} {meth : Method} {cc : Code} {Q : State → Prop} {ls : Array Slot}
def kLn (ad : Nat → Nat) (b : Nat) : List (Nat × Value) := [(4, .int (Int32.ofInt ((0 : Nat) : Int))), (3, .ref (ad 176)), (2, .ref (ad 119)), (1, .ref (ad 0)), (0, .ref b)]
theorem kentry {b : Nat} (C : kCx g 21 mLaw p R s m args meth cc) (hl : lv_has ls 7 [(0, .ref b)]) (hc : 177 ≤ R.cells) (hs : 40299 ≤ R.slots)
    (kk : ∀ (ad : Nat → Nat) (H : Heap) (locs : List Loc) (ls' : Array Slot), kRel g ad kE3 H → va_S (zA g) s.heap H locs → lv_has ls' 7 (kLn ad b) → W p g.1 e R s m args below meth cc H locs 177 40299 Q (F0 m 23 ls' [])) : W p g.1 e R s m args below meth cc s.heap [] 0 0 Q (F0 m 0 ls []) := by
  have r0 : kRel g (fun _ => 0) [] s.heap := ⟨(fun k q h => by cases h), (fun i j p9 q9 h => by cases h), (fun k q h => by cases h)⟩
  refine kall_ok (ad := fun _ => 0) (E := []) (st := []) C kL_0 r0 va_S.rf kal_0 rfl rfl ⟨by omega, by omega⟩ (fun ad1 H1 a1 r1 S1 => ?_)
  have r1 : kRel g ad1 [.inl (11, kdef 11)] H1 := r1
  refine lv_dup (va := .ref (ad1 0)) C.1 C.2.1 kL_3 rfl ?_
  refine kcl_ok (d := 21) (ad := ad1) (E := [.inl (11, kdef 11)]) (st := [some (.inr 0), some (.inr 0)]) (pc := 4) C kL_4 hl.1 r1 S1 (kcl_4 _) (by decide) (by decide) ⟨by omega, by omega⟩ kmet11 (fun ad2 H2 locs2 a2 r2 S2 => ?_)
  refine lv_astore_n (i := 1) (nL := 7) (x := ad1 0) C.1 C.2.1 kL_7 rfl hl (by decide) rfl (fun ls2 l2 => ?_)
  refine kall_ok (ad := ad2) (E := kE1) (st := []) (pc := 8) C kL_8 r2 S2 kal_8 (by rw [kE1_len]; exact kE1_ok) rfl ⟨by omega, by omega⟩ (fun ad3 H3 a3 r3 S3 => ?_)
  rw [kE1_len] at a3 ⊢
  refine lv_dup (va := .ref (ad3 119)) C.1 C.2.1 kL_11 rfl ?_
  refine kcl_ok (d := 21) (ad := ad3) (E := kE1 ++ [.inl (12, kdef 12)]) (st := [some (.inr 119), some (.inr 119)]) (pc := 12) C kL_12 l2.1 r3 S3 (kcl_12 _) (by decide) (by decide) ⟨by omega, by omega⟩ kmet12 (fun ad4 H4 locs4 a4 r4 S4 => ?_)
  rw [List.length_append, kE1_len] at a4
  refine lv_astore_n (i := 2) (nL := 7) (x := ad3 119) C.1 C.2.1 kL_15 rfl l2 (by decide) rfl (fun ls3 l3 => ?_)
  refine lv_iconst (v := Int32.ofInt 1) C.1 C.2.1 kL_16 rfl ?_
  refine kall_ok (ad := ad4) (E := kE2) (st := [some (.inl 1)]) (pc := 17) C kL_17 r4 S4 kal_17 (by rw [kE2_len]; exact kE2_ok) rfl ⟨by omega, by omega⟩ (fun ad5 H5 a5 r5 S5 => ?_)
  rw [kE2_len] at a5 ⊢
  refine lv_astore_n (i := 3) (nL := 7) (x := ad5 176) C.1 C.2.1 kL_19 rfl l3 (by decide) rfl (fun ls4 l4 => ?_)
  refine lv_iconst (v := Int32.ofInt ((0 : Nat) : Int)) C.1 C.2.1 kL_20 rfl ?_
  refine lv_istore (i := 4) (nL := 7) C.1 C.2.1 kL_21 l4 (by decide) rfl (fun ls5 l5 => ?_)
  refine kk ad5 H5 locs4 ls5 r5 S5 ?_
  have e0 : ad5 0 = ad1 0 := by
    rw [a5 0 (by omega), a4 0 (by omega), a3 0 (by omega), a2 0 (by decide)]
  have e1 : ad5 119 = ad3 119 := by
    rw [a5 119 (by omega), a4 119 (by show 119 < 119 + 1; omega)]
  unfold kLn
  rw [e0, e1]
  exact l5
end
