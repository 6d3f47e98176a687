-- needs av
/-! the law's body: its arguments, a case -/
def mLaw : zMeth := (yL_law, code, 7, ret, 13, [])
def zLd (pc : Nat) (i : Instr) (n : Nat) : Bool := decide (decode code pc = .ok (i, n))
theorem zLd_ok {pc n : Nat} {i : Instr} (h : zLd pc i n = true) : decode mLaw.2.1 pc = .ok (i, n) := of_decide_eq_true h
def zLa : Nat → List (Int × Bool) → Nat → Bool
  | pc, [], q => Nat.beq pc q
  | pc, (k, false) :: r, q => (decide (0 ≤ k) && decide (k ≤ 4)) && (zLd pc (.aload_n 0) 1 && (zLd (pc + 1) (.iload 4) 2 && (zLd (pc + 3) (.iconst k) 1 && (zLd (pc + 4) .iadd 1 && (zLd (pc + 5) .iaload 1 && zLa (pc + 6) r q)))))
  | pc, (k, true) :: r, q => (decide (0 ≤ k) && decide (k ≤ 4)) && (zLd pc (.aload_n 0) 1 && (zLd (pc + 1) (.iload 4) 2 && (zLd (pc + 3) (.iconst k) 1 && (zLd (pc + 4) .iadd 1 && (zLd (pc + 5) .iaload 1 && (zLd (pc + 6) (.ifCond .eq 7) 3 && (zLd (pc + 9) (.iconst 1) 1 && (zLd (pc + 10) (.goto 4) 3 && (zLd (pc + 13) (.iconst 0) 1 && zLa (pc + 14) r q)))))))))
def zLcs (pc : Nat) (as : List (Int × Bool)) (pc1 iC pc2 iM : Nat) : Bool := zLd pc (.aload_n 1) 1 && (zLa (pc + 1) as pc1 && (zLd pc1 (.invokevirtual iC) 3 && (zLd (pc1 + 3) (.aload_n 2) 1 && (zLa (pc1 + 4) as pc2 && (zLd pc2 (.invokevirtual iM) 3 && zLd (pc2 + 3) (.if_icmp .eq (1886 - ((pc2 : Int) + 3))) 3)))))
def zLct (pc : Nat) (as : List (Int × Bool)) (pc1 iC pc2 iM : Nat) : Bool := zLd pc (.aload_n 1) 1 && (zLa (pc + 1) as pc1 && (zLd pc1 (.aload_n 3) 1 && (zLd (pc1 + 1) (.invokestatic iC) 3 && (zLd (pc1 + 4) (.istore 5) 2 && (zLd (pc1 + 6) (.aload_n 2) 1 && (zLa (pc1 + 7) as pc2 && (zLd pc2 (.invokevirtual iM) 3 && (zLd (pc2 + 3) (.istore 6) 2 && (zLd (pc2 + 5) (.aload_n 2) 1 && (zLd (pc2 + 6) (.invokevirtual 87) 3 && (zLd (pc2 + 9) (.iload 5) 2 && (zLd (pc2 + 11) (.if_icmp .eq 5) 3 && (zLd (pc2 + 16) (.iload 5) 2 && (zLd (pc2 + 18) (.ifCond .ne 15) 3 && (zLd (pc2 + 21) (.aload_n 3) 1 && (zLd (pc2 + 22) (.iconst 0) 1 && (zLd (pc2 + 23) .laload 1 && (zLd (pc2 + 24) (.iload 6) 2 && (zLd (pc2 + 26) .i2l 1 && (zLd (pc2 + 27) .lcmp 1 && (zLd (pc2 + 28) (.ifCond .eq 5) 3 && zLd (pc2 + 33) (.goto (1886 - ((pc2 : Int) + 33))) 3)))))))))))))))))))))
def zLx (xs : Nat → Int32) (i : Nat) (a : Int × Bool) : Int := if a.2 = true then (if (xs (i + a.1.toNat)).toInt = 0 then 0 else 1) else (xs (i + a.1.toNat)).toInt
theorem zLx_ok (xs : Nat → Int32) (i : Nat) (a : Int × Bool) : zI32 (zLx xs i a) := by
  unfold zLx
  split
  · split
    · exact zI32_0
    · unfold zI32; omega
  · exact zI32_to _
theorem zLx_b (xs : Nat → Int32) (i : Nat) (k : Int) : zLx xs i (k, true) = 0 ∨ zLx xs i (k, true) = 1 := by
  unfold zLx
  rw [if_pos rfl]
  split
  · exact Or.inl rfl
  · exact Or.inr rfl
def zLl (g : zG) (b i : Nat) : List (Nat × Value) := [(4, .int (Int32.ofInt (i : Int))), (3, .ref (zad g 176)), (2, .ref (zad g 119)), (1, .ref (zad g 0)), (0, .ref b)]
section
variable {g : zG} {d : Nat} {μ : zM} {nn : Int} {b L i : Nat} {xs : Nat → Int32}
variable {p : Program} {e : Env} {R : Room} {s : State} {m : MethodId} {args : Array Value} {below : List Frame} {meth : Method} {cc : Code} {H : Heap} {locs : List Loc} {cells slots : Nat} {Q : State → Prop} {ls : Array Slot}
theorem zla_one {pc : Nat} {k : Int} {rest : List Value} (C : zCx g d mLaw p R s m args cc cells slots) (hX : va_X b L xs s s.heap) (hb : b < s.heap.size) (hbA : ¬ zA g b) (hi : i + 4 < L) (hL : L ≤ 2560) (hS : va_S (zA g) s.heap H locs) (h0 : ls[0]? = some (.val (.ref b))) (h4 : ls[4]? = some (.val (.int (Int32.ofInt (i : Int)))))
    (hk : 0 ≤ k ∧ k ≤ 4) (d0 : zLd pc (.aload_n 0) 1 = true) (d1 : zLd (pc + 1) (.iload 4) 2 = true) (d3 : zLd (pc + 3) (.iconst k) 1 = true) (d4 : zLd (pc + 4) .iadd 1 = true) (d5 : zLd (pc + 5) .iaload 1 = true)
    (kk : W p g.1 e R s m args below meth cc H locs cells slots Q (F0 m (pc + 6) ls (.int (xs (i + k.toNat)) :: rest))) : W p g.1 e R s m args below meth cc H locs cells slots Q (F0 m pc ls rest) := by
  refine lv_aload_n C.1 C.2.1 (zLd_ok d0) rfl h0 ?_
  refine lv_iload C.1 C.2.1 (zLd_ok d1) h4 ?_
  refine lv_iconst (v := Int32.ofInt k) C.1 C.2.1 (zLd_ok d3) rfl ?_
  refine lv_iadd (x := Int32.ofInt (i : Int)) (y := Int32.ofInt k) C.1 C.2.1 (zLd_ok d4) ?_
  rw [show Int32.ofInt (i : Int) + Int32.ofInt k = Int32.ofInt ((i : Int) + k) from by rw [Int32.ofInt_add]]
  have h32 : zI32 ((i : Int) + k) := by unfold zI32; omega
  refine va_sld (i := Int32.ofInt ((i : Int) + k)) C.1 C.2.1 hX hb hbA hS (zvp_in h32 (by omega)) (zLd_ok d5) ?_
  rw [zof_toN h32, show ((i : Int) + k).toNat = i + k.toNat from by omega]
  exact kk
theorem zla_run (C : zCx g d mLaw p R s m args cc cells slots) (hX : va_X b L xs s s.heap) (hb : b < s.heap.size) (hbA : ¬ zA g b) (hi : i + 4 < L) (hL : L ≤ 2560) (hS : va_S (zA g) s.heap H locs) (h0 : ls[0]? = some (.val (.ref b))) (h4 : ls[4]? = some (.val (.int (Int32.ofInt (i : Int))))) :
    ∀ (as : List (Int × Bool)) (pc q : Nat) (rest : List Value), zLa pc as q = true → W p g.1 e R s m args below meth cc H locs cells slots Q (F0 m q ls ((as.map fun a => zR g (.inl (zLx xs i a))).reverse ++ rest)) → W p g.1 e R s m args below meth cc H locs cells slots Q (F0 m pc ls rest)
  | [], pc, q, rest, h, kk => by
    have hq : pc = q := Nat.eq_of_beq_eq_true h
    subst hq
    exact kk
  | (k, false) :: r, pc, q, rest, h, kk => by
    rw [List.map_cons, List.reverse_cons, List.append_assoc] at kk
    simp only [zLa, Bool.and_eq_true] at h
    obtain ⟨⟨k0, k4⟩, d0, d1, d3, d4, d5, h⟩ := h
    refine zla_one C hX hb hbA hi hL hS h0 h4 ⟨of_decide_eq_true k0, of_decide_eq_true k4⟩ d0 d1 d3 d4 d5 ?_
    refine zla_run C hX hb hbA hi hL hS h0 h4 r (pc + 6) q _ h ?_
    have e9 : zR g (.inl (zLx xs i (k, false))) = .int (xs (i + k.toNat)) := by
      show Value.int (Int32.ofInt (xs (i + k.toNat)).toInt) = _
      rw [Int32.ofInt_toInt]
    rw [e9] at kk
    exact kk
  | (k, true) :: r, pc, q, rest, h, kk => by
    rw [List.map_cons, List.reverse_cons, List.append_assoc] at kk
    simp only [zLa, Bool.and_eq_true] at h
    obtain ⟨⟨k0, k4⟩, d0, d1, d3, d4, d5, d6, d9, d10, d13, h⟩ := h
    refine zla_one C hX hb hbA hi hL hS h0 h4 ⟨of_decide_eq_true k0, of_decide_eq_true k4⟩ d0 d1 d3 d4 d5 ?_
    refine lv_if_eq (tgt := pc + 13) C.1 C.2.1 (zLd_ok d6) (by omega) (fun hx => ?_) (fun hx => ?_)
    · refine lv_iconst (v := Int32.ofInt 0) C.1 C.2.1 (zLd_ok d13) rfl ?_
      refine zla_run C hX hb hbA hi hL hS h0 h4 r (pc + 14) q _ h ?_
      have e9 : zLx xs i (k, true) = 0 := by
        unfold zLx
        rw [if_pos rfl, if_pos (show (xs (i + k.toNat)).toInt = 0 by rw [hx]; rfl)]
      rw [e9] at kk
      exact kk
    · refine lv_iconst (v := Int32.ofInt 1) C.1 C.2.1 (zLd_ok d9) rfl ?_
      refine lv_goto (tgt := pc + 14) C.1 C.2.1 (zLd_ok d10) (by omega) ?_
      refine zla_run C hX hb hbA hi hL hS h0 h4 r (pc + 14) q _ h ?_
      have e9 : zLx xs i (k, true) = 1 := by
        unfold zLx
        rw [if_pos rfl, if_neg (show ¬ (xs (i + k.toNat)).toInt = 0 from fun hz => hx (Int32.toInt_inj.1 (hz.trans (show (0 : Int) = (0 : Int32).toInt from rfl))))]
      rw [e9] at kk
      exact kk
theorem zl_argok (as : List (Int × Bool)) : ∀ v ∈ (as.map fun a => (.inl (zLx xs i a) : zV)), zok v := fun v hv => by
  obtain ⟨a, _, rfl⟩ := List.mem_map.mp hv
  exact zLx_ok xs i a
theorem zl_case {as : List (Int × Bool)} {pc pc1 iC pc2 iM idC idM n : Nat} (C : zCx g d mLaw p R s m args cc cells slots) (hX : va_X b L xs s s.heap) (hb : b < s.heap.size) (hbA : ¬ zA g b) (hi : i + 4 < L) (hL : L ≤ 2560) (hd0 : 0 < d) (hr : zRel g μ H) (hS : va_S (zA g) s.heap H locs) (hlv : lv_has ls 7 (zLl g b i))
    (nx : ∀ (μ' : zM) (H' : Heap) (locs' : List Loc) (ls' : Array Slot), zRel g μ' H' → va_S (zA g) s.heap H' locs' → lv_has ls' 7 (zLl g b i) → zInv (nn + 1) μ' → W p g.1 e R s m args below meth cc H' locs' (cells + 1) (slots + 6) Q (F0 m 1886 ls' []))
    (hn : as.length = n) (hchk : zLcs pc as pc1 iC pc2 iM = true) (pC : zCw 13 iC idC n 11) (pM : zCw 13 iM idM n 12) (op : zBoth g (d - 1) idC idM (as.map fun a => .inl (zLx xs i a)) μ nn) : W p g.1 e R s m args below meth cc H locs cells slots Q (F0 m pc ls []) := by
  simp only [zLcs, Bool.and_eq_true] at hchk
  obtain ⟨d0, a1, d1, d2, a2, d3, d4⟩ := hchk
  have h0 : ls[0]? = some (.val (.ref b)) := lv_at hlv 4 rfl
  have h4 : ls[4]? = some (.val (.int (Int32.ofInt (i : Int)))) := lv_at hlv 0 rfl
  refine lv_aload_n (i := 1) (x := zad g 0) C.1 C.2.1 (zLd_ok d0) rfl (lv_at hlv 3 rfl) ?_
  refine zla_run C hX hb hbA hi hL hS h0 h4 as (pc + 1) pc1 _ a1 ?_
  refine zw_callV (id := idC) (n := n) (cI := 11) (j := 0) (as := as.map fun a => .inl (zLx xs i a)) (rest := []) C hlv.1 rfl (zLd_ok d1) pC (by rw [List.length_map]; exact hn) (zl_argok as) (by rw [List.map_map]; rfl) (Nat.zero_le _) hd0 hr hS op (fun v μ1 H1 locs1 hr1 hS1 hok1 hK => ?_)
  obtain ⟨a, rfl, opM⟩ := hK
  refine lv_aload_n (i := 2) (x := zad g 119) C.1 C.2.1 (zLd_ok d2) rfl (lv_at hlv 2 rfl) ?_
  refine zla_run C hX hb hbA hi hL hS1 h0 h4 as (pc1 + 4) pc2 _ a2 ?_
  refine zw_callV (id := idM) (n := n) (cI := 12) (j := 119) (as := as.map fun a => .inl (zLx xs i a)) (rest := [.int (Int32.ofInt a)]) C hlv.1 rfl (zLd_ok d3) pM (by rw [List.length_map]; exact hn) (zl_argok as) (by rw [List.map_map]; rfl) (Nat.le_of_ble_eq_true rfl) hd0 hr1 hS1 opM (fun v2 μ2 H2 locs2 hr2 hS2 hok2 hK2 => ?_)
  obtain ⟨rfl, inv⟩ := hK2
  refine lv_icmp_eq (x := Int32.ofInt a) (y := Int32.ofInt a) (tgt := 1886) C.1 C.2.1 (zLd_ok d4) (by omega) (fun _ => ?_) (fun hne => absurd rfl hne)
  refine W.widen (k := cells + 1) (n := slots + 6) (by omega) (by omega) ?_
  exact nx μ2 H2 locs2 ls hr2 hS2 hlv inv
end
