-- needs aw
/-! the law's two cases that may be thrown at -/
/-- what the tables say of a method of the law -/
def zSw (own i n : Nat) (M : zMeth) (hh : List (Nat × Nat × Nat × Nat)) : Prop := Cond.methodLink (zOwn.getD own "") i M.1 ∈ zTb ∧ Cond.static M.1 ∈ zTb ∧ Cond.initialized M.1.cls ∈ zTb ∧ Cond.codeWith M.1 M.2.1 M.2.2.1 M.2.2.2.1 hh ∈ zTb ∧ (M.1.cls ≠ "java/lang/invoke/MethodHandle" ∧ M.1.cls ≠ "java/lang/invoke/VarHandle" ∧ (parseMethodDescriptor M.1.desc).map (fun q => q.parameters.length) = some n) ∧ M.2.2.1 ≤ 45
theorem zs_81 : zSw 13 81 4 mLof hLof := ⟨zin_ok (by decide +kernel), zin_ok (by decide +kernel), zin_ok (by decide +kernel), zin_ok (by decide +kernel), ⟨by decide +kernel, by decide +kernel, by decide +kernel⟩, by decide⟩
theorem zs_240 : zSw 13 240 3 mLrow hLrow := ⟨zin_ok (by decide +kernel), zin_ok (by decide +kernel), zin_ok (by decide +kernel), zin_ok (by decide +kernel), ⟨by decide +kernel, by decide +kernel, by decide +kernel⟩, by decide⟩
section
variable {g : zG} {d : Nat} {M : zMeth} {pc : Nat} {μ : zM}
variable {p : Program} {e : Env} {R : Room} {s : State} {m : MethodId} {args : Array Value} {below : List Frame} {meth : Method} {cc : Code} {H : Heap} {locs : List Loc} {cells slots : Nat} {Q : State → Prop} {ls : Array Slot} {rest st0 : List Value}
theorem zw_callSW {i n : Nat} {as : List zV} {K : Option zV → zM → Prop} {M9 : zMeth} {hh : List (Nat × Nat × Nat × Nat)} (C : zCx g d M p R s m args cc cells slots) (hx : zXs g s) (hls : ls.size = M.2.2.1) (hd : decode M.2.1 pc = .ok (.invokestatic i, 3)) (hp : zSw M.2.2.2.2.1 i n M9 hh) (hn : as.length = n) (hok : ∀ v ∈ as, zok v)
    (hst : st0 = (as.map (zR g)).reverse ++ rest) (hc : (rest.map fun v => v.category).sum ≤ 8) (hd0 : 0 < d) (hr : zRel g μ H) (hS : va_S (zA g) s.heap H locs) (hf : cells + 1 ≤ R.cells ∧ slots + 6 ≤ R.slots) (h : zLM g (d - 1) M9 hh as μ K)
    (kk : ∀ (v : Option zV) (μ' : zM) (H' : Heap) (locs' : List Loc), zRel g μ' H' → va_S (zA g) s.heap H' locs' → zokO v → K v μ' → W p g.1 e R s m args below meth cc H' locs' (cells + 1) (slots + 6) Q (F0 m (pc + 3) ls ((v.map (zR g)).toList ++ rest))) : W p g.1 e R s m args below meth cc H locs cells slots Q (F0 m pc ls st0) := by
  obtain ⟨p1, p2, p3, p4, p5, p6⟩ := hp
  have hw := C.2.2.2.2.1
  have hfr : d ≤ R.frames := C.2.2.2.2.2.2.1
  have hlo : 64 * d ≤ R.locals := C.2.2.2.2.2.2.2.1
  have hG : GoodIn zTb (va_wsS (zOwn.getD M.2.2.2.2.1 "") i M9.1 (zLw M9 hh)) := fun w hw9 => by
    have h9 : w ∈ zTb := by
      unfold va_wsS zLw at hw9
      simp only [List.mem_append, List.mem_cons, List.not_mem_nil, or_false] at hw9
      rcases hw9 with (rfl | rfl | rfl) | rfl | h9
      · exact p1
      · exact p2
      · exact p3
      · exact p4
      · exact h9
    exact ⟨h9, zTb_good h9⟩
  have hrun : va_Run p g.1 e R s m args below meth cc H locs cells slots 1 6 (F0 m pc ls st0) rest (zQc g K (as.map (zR g)).toArray) (zA g) := by
    refine vx_runSW (Ts := zTb) (own := zOwn.getD M.2.2.2.2.1 "") (index := i) (n := n) (bytes := M9.2.1) (maxL := M9.2.2.1) (ret := M9.2.2.2.1) (hh := hh) (As := as.map (zR g)) ⟨C.1, C.2.1, C.2.2.1, C.2.2.2.1, hw⟩ h (vx_cwSW n hw hG rfl rfl rfl p5 ⟨by show d - 1 + 1 ≤ R.frames; omega, by show 8 + (M9.2.2.1 + 11) + 64 * (d - 1) ≤ R.locals; omega⟩) ⟨zPx_blind g _ μ, ?_⟩ rfl (by rw [List.length_map]; exact hn) hls hst (lv_room hc) hd hf
    intro U hU hWm
    exact ⟨⟨rfl, hok, by rw [hU]; exact hr, zSt_moved (locs := locs) C.2.2.2.2.2.1 hWm (by rw [hU]; exact hS)⟩, zXs_moved (locs := locs) hx hWm (by rw [hU]; exact hS)⟩
  intro T0 hT X
  obtain ⟨v, st₀, t, T', L, h0, X', hL, e1, e2, ⟨v', μ', hv', hok', hrel, hK, hz, hk⟩, st⟩ := hrun T0 hT X
  have hv2 : v = v'.map (zR g) := Outcome.returned.inj hv'
  subst hv2
  rw [h0] at hz hk
  have hS1 : va_S (zA g) s.heap T'.heap (locs ++ L) := by
    rw [e1]
    refine ⟨Nat.le_trans hS.1 hz, fun q h1 h2 => ?_, fun q hq => ?_⟩
    · rw [hk q (Nat.lt_of_lt_of_le h1 hS.1) h2]
      exact hS.2.1 q h1 h2
    · rcases List.mem_append.mp hq with h | h
      · exact hS.2.2 q h
      · exact hL q h
  obtain ⟨t2, a1, b1⟩ := kk v' μ' T'.heap (locs ++ L) (by rw [e1]; exact hrel) hS1 hok' hK T' rfl X'
  exact ⟨t2, st t2 a1, b1⟩
theorem zw_lald {j n : Nat} {i : Int} (C : zCx g d M p R s m args cc cells slots) (hr : zRel g μ H) (hj : zSh[j]? = some (4, n)) (hi : 0 ≤ i ∧ i < n) (hi2 : zI32 i) (hd : decode M.2.1 pc = .ok (.laload, 1))
    (kk : W p g.1 e R s m args below meth cc H locs cells slots Q (F0 m (pc + 1) ls (.long (Int64.ofInt (μ j i)) :: rest))) : W p g.1 e R s m args below meth cc H locs cells slots Q (F0 m pc ls (.int (Int32.ofInt i) :: .ref (zad g j) :: rest)) := by
  refine va_lald (D := zD g) (a := zad g j) (f := fun a => Int64.ofInt (μ j a)) (i := Int32.ofInt i) C.1 C.2.1 C.2.2.2.2.2.1.1 hr.1 j 3 (zW_get hj) rfl (zvp_in hi2 hi) hd ?_
  show W p g.1 e R s m args below meth cc H locs cells slots Q (F0 m (pc + 1) ls (.long (Int64.ofInt (μ j ((Int32.ofInt i).toNatClampNeg : Int))) :: rest))
  rw [zof_toN hi2, show ((i.toNat : Nat) : Int) = i from by omega]
  exact kk
theorem zlv_tail {nL : Nat} {q : Nat × Value} {l : List (Nat × Value)} (h : lv_has ls nL (q :: l)) : lv_has ls nL l := ⟨h.1, h.2.1, fun r hr => h.2.2 r (List.mem_cons_of_mem _ hr)⟩
variable {nn : Int} {b L i : Nat} {xs : Nat → Int32}
theorem zl_tcase {as : List (Int × Bool)} {pc pc1 iC pc2 iM idM n : Nat} {M9 : zMeth} {hh : List (Nat × Nat × Nat × Nat)} (C : zCx g d mLaw p R s m args cc cells slots) (hx : zXs g s) (hX : va_X b L xs s s.heap) (hb : b < s.heap.size) (hbA : ¬ zA g b) (hi : i + 4 < L) (hL : L ≤ 2560) (hd0 : 0 < d) (hr : zRel g μ H) (hS : va_S (zA g) s.heap H locs) (hlv : lv_has ls 7 (zLl g b i)) (hf : cells + 1 ≤ R.cells ∧ slots + 6 ≤ R.slots)
    (nx : ∀ (μ' : zM) (H' : Heap) (locs' : List Loc) (ls' : Array Slot), zRel g μ' H' → va_S (zA g) s.heap H' locs' → lv_has ls' 7 (zLl g b i) → zInv (nn + 1) μ' → W p g.1 e R s m args below meth cc H' locs' (cells + 1) (slots + 6) Q (F0 m 1886 ls' []))
    (hn : as.length = n) (hchk : zLct pc as pc1 iC pc2 iM = true) (pC : zSw 13 iC (n + 2) M9 hh) (pM : zCw 13 iM idM n 12) (op : zBt g (d - 1) M9 hh idM (as.map fun a => .inl (zLx xs i a)) μ nn) : W p g.1 e R s m args below meth cc H locs cells slots Q (F0 m pc ls []) := by
  simp only [zLct, Bool.and_eq_true] at hchk
  obtain ⟨d0, a1, d1, d2, d3, d4, a2, d5, d6, d7, d8, d9, d10, d11, d12, d13, d14, d15, d16, d17, d18, d19, d20⟩ := hchk
  obtain ⟨ok, v, opC, opM⟩ := op
  have h0 : ls[0]? = some (.val (.ref b)) := lv_at hlv 4 rfl
  have h4 : ls[4]? = some (.val (.int (Int32.ofInt (i : Int)))) := lv_at hlv 0 rfl
  refine lv_aload_n (i := 1) (x := zad g 0) C.1 C.2.1 (zLd_ok d0) rfl (lv_at hlv 3 rfl) ?_
  refine zla_run C hX hb hbA hi hL hS h0 h4 as (pc + 1) pc1 _ a1 ?_
  refine lv_aload_n (i := 3) (x := zad g 176) C.1 C.2.1 (zLd_ok d1) rfl (lv_at hlv 1 rfl) ?_
  refine zw_callSW (n := n + 2) (rest := []) C hx hlv.1 (zLd_ok d2) pC (by rw [List.length_append, List.length_cons, List.length_map, hn]; rfl) ?_ ?_ (Nat.zero_le _) hd0 hr hS hf opC (fun r μ1 H1 locs1 hr1 hS1 hok1 hK => ?_)
  · intro w hw
    rcases List.mem_append.mp hw with hw | hw
    · rcases List.mem_cons.mp hw with rfl | hw
      · exact Or.inl rfl
      · exact zl_argok as w hw
    · rcases List.mem_cons.mp hw with rfl | hw
      · exact Or.inl rfl
      · cases hw
  · have e9 : (as.map fun a => (.inl (zLx xs i a) : zV)).map (zR g) = as.map (fun a => zR g (.inl (zLx xs i a))) := by rw [List.map_map]; rfl
    rw [List.map_append, List.reverse_append, List.append_nil]
    show _ = Value.ref (zad g 176) :: (((Value.ref (zad g 0)) :: ((as.map fun a => (.inl (zLx xs i a) : zV)).map (zR g))).reverse)
    rw [e9, List.reverse_cons]
  have C1 : zCx g d mLaw p R s m args cc (cells + 1) (slots + 6) := ⟨C.1, C.2.1, C.2.2.1, C.2.2.2.1, C.2.2.2.2.1, C.2.2.2.2.2.1, C.2.2.2.2.2.2.1, C.2.2.2.2.2.2.2.1, hf.1, hf.2⟩
  have fr1 : ∀ j, ¬ j = 176 → μ1 j = μ j := by
    intro j hj
    rcases hK with ⟨_, _, rfl⟩ | ⟨_, _, rfl⟩
    · exact zU_off j hj
    · rfl
  have opM := opM μ1 fr1
  obtain ⟨t9, rfl, ht9⟩ : ∃ t9 : Int, r = some (.inl t9) ∧ ((ok ∧ t9 = 0 ∧ μ1 176 0 = v) ∨ (¬ ok ∧ t9 = 1)) := by
    rcases hK with ⟨q1, q2, rfl⟩ | ⟨q1, q2, rfl⟩
    · exact ⟨0, q2, Or.inl ⟨q1, rfl, zU_eq⟩⟩
    · exact ⟨1, q2, Or.inr ⟨q1, rfl⟩⟩
  refine lv_istore (nL := 7) (x := Int32.ofInt t9) C1.1 C1.2.1 (zLd_ok d3) hlv (by decide) rfl (fun ls1 hlv1 => ?_)
  have hlv1 : lv_has ls1 7 ((5, .int (Int32.ofInt t9)) :: zLl g b i) := hlv1
  have h01 : ls1[0]? = some (.val (.ref b)) := lv_at hlv1 5 rfl
  have h41 : ls1[4]? = some (.val (.int (Int32.ofInt (i : Int)))) := lv_at hlv1 1 rfl
  refine lv_aload_n (i := 2) (x := zad g 119) C1.1 C1.2.1 (zLd_ok d4) rfl (lv_at hlv1 3 rfl) ?_
  refine zla_run C1 hX hb hbA hi hL hS1 h01 h41 as (pc1 + 7) pc2 _ a2 ?_
  refine zw_callV (id := idM) (n := n) (cI := 12) (j := 119) (as := as.map fun a => .inl (zLx xs i a)) (rest := []) C1 hlv1.1 rfl (zLd_ok d5) pM (by rw [List.length_map]; exact hn) (zl_argok as) (by rw [List.map_map]; rfl) (Nat.zero_le _) hd0 hr1 hS1 opM (fun v2 μ2 H2 locs2 hr2 hS2 hok2 hK2 => ?_)
  obtain ⟨y, rfl, e176, hy, inv⟩ := hK2
  have hy32 : zI32 y := hok2 _ rfl
  refine lv_istore (nL := 7) (x := Int32.ofInt y) C1.1 C1.2.1 (zLd_ok d6) hlv1 (by decide) rfl (fun ls2 hlv2 => ?_)
  have hlv2 : lv_has ls2 7 ((6, .int (Int32.ofInt y)) :: (5, .int (Int32.ofInt t9)) :: zLl g b i) := hlv2
  refine lv_aload_n (i := 2) (x := zad g 119) C1.1 C1.2.1 (zLd_ok d7) rfl (lv_at hlv2 4 rfl) ?_
  refine zw_callV (id := 160) (n := 0) (cI := 12) (j := 119) (as := []) (rest := []) (K := fun r μ' => r = some (.inl (μ2 119 33)) ∧ μ' = μ2) C1 hlv2.1 rfl (zLd_ok d8) zl_87 rfl (fun w hw => by cases hw) rfl (Nat.zero_le _) hd0 hr2 hS2 (sX12_thrown ⟨rfl, rfl⟩) (fun v3 μ3 H3 locs3 hr3 hS3 hok3 hK3 => ?_)
  obtain ⟨rfl, rfl⟩ := hK3
  have e33 : μ3 119 33 = t9 := by
    rcases ht9 with ⟨q, rfl, _⟩ | ⟨q, rfl⟩
    · rcases hy with hy | hy
      · exact hy.2.2
      · exact absurd q hy.1
    · rcases hy with hy | hy
      · exact absurd hy.1 q
      · exact hy.2
  rw [e33]
  refine lv_iload (x := Int32.ofInt t9) C1.1 C1.2.1 (zLd_ok d9) (lv_at hlv2 1 rfl) ?_
  refine lv_icmp_eq (x := Int32.ofInt t9) (y := Int32.ofInt t9) (tgt := pc2 + 16) C1.1 C1.2.1 (zLd_ok d10) (by omega) (fun _ => ?_) (fun hne => absurd rfl hne)
  have fin : W p g.1 e R s m args below meth cc H3 locs3 (cells + 1) (slots + 6) Q (F0 m (pc2 + 33) ls2 []) := by
    refine lv_goto (tgt := 1886) C1.1 C1.2.1 (zLd_ok d20) (by omega) ?_
    exact nx μ3 H3 locs3 ls2 hr3 hS3 (zlv_tail (zlv_tail hlv2)) inv
  refine lv_iload (x := Int32.ofInt t9) C1.1 C1.2.1 (zLd_ok d11) (lv_at hlv2 1 rfl) ?_
  refine lv_if_ne (x := Int32.ofInt t9) (tgt := pc2 + 33) C1.1 C1.2.1 (zLd_ok d12) (by omega) (fun _ => fin) (fun hz => ?_)
  obtain ⟨q, rfl, ev⟩ : ok ∧ t9 = 0 ∧ μ1 176 0 = v := by
    rcases ht9 with h9 | ⟨_, rfl⟩
    · exact h9
    · exact absurd hz (show ¬ (Int32.ofInt 1 = 0) by decide)
  have yv : y = v := by
    rcases hy with hy | hy
    · exact hy.2.1
    · exact absurd q hy.1
  refine lv_aload_n (i := 3) (x := zad g 176) C1.1 C1.2.1 (zLd_ok d13) rfl (lv_at hlv2 3 rfl) ?_
  refine lv_iconst (v := Int32.ofInt 0) C1.1 C1.2.1 (zLd_ok d14) rfl ?_
  refine zw_lald (j := 176) (n := 1) (i := 0) C1 hr3 rfl (by omega) zI32_0 (zLd_ok d15) ?_
  rw [e176, ev, ← yv]
  refine lv_iload (x := Int32.ofInt y) C1.1 C1.2.1 (zLd_ok d16) (lv_at hlv2 0 rfl) ?_
  refine lv_i2l (x := Int32.ofInt y) (v := Int64.ofInt y) C1.1 C1.2.1 (zLd_ok d17) (by rw [← Int64.ofInt_int32ToInt, zto_of hy32]) ?_
  refine W.lcmp (x := Int64.ofInt y) (y := Int64.ofInt y) C1.1 C1.2.1 (zLd_ok d18) ?_
  rw [zcmp_of (zI64_32 hy32) (zI64_32 hy32)]
  refine lv_if_eq (tgt := pc2 + 33) C1.1 C1.2.1 (zLd_ok d19) (by omega) (fun _ => fin) (fun hz => ?_)
  refine absurd ?_ hz
  unfold zcmp
  rw [if_neg (Int.lt_irrefl y)]
  first | rfl | (rw [if_pos rfl]; rfl) | (rw [if_neg (Int.lt_irrefl y)]; rfl)
end
