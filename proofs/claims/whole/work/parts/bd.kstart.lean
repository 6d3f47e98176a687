-- needs bc
/-! what the Statement gives of the start, as the frame wants it -/
theorem ki_0 : Cond.instantiable RX0 15 ∈ zTb := zin_ok (by decide +kernel)
theorem ki_1 : Cond.instantiable RX1 11 ∈ zTb := zin_ok (by decide +kernel)
theorem ki_2 : Cond.instantiable RX2 10 ∈ zTb := zin_ok (by decide +kernel)
theorem ki_3 : Cond.instantiable RX3 7 ∈ zTb := zin_ok (by decide +kernel)
theorem ki_4 : Cond.instantiable RX4 6 ∈ zTb := zin_ok (by decide +kernel)
theorem ki_5 : Cond.instantiable RX5 2 ∈ zTb := zin_ok (by decide +kernel)
theorem ki_6 : Cond.instantiable RX6 10 ∈ zTb := zin_ok (by decide +kernel)
theorem ki_7 : Cond.instantiable RX7 7 ∈ zTb := zin_ok (by decide +kernel)
theorem ki_8 : Cond.instantiable RX8 18 ∈ zTb := zin_ok (by decide +kernel)
theorem ki_9 : Cond.instantiable RX9 14 ∈ zTb := zin_ok (by decide +kernel)
theorem ki_10 : Cond.instantiable RX10 6 ∈ zTb := zin_ok (by decide +kernel)
theorem ki_11 : Cond.instantiable RX11 14 ∈ zTb := zin_ok (by decide +kernel)
theorem ki_12 : Cond.instantiable RX12 84 ∈ zTb := zin_ok (by decide +kernel)
theorem ki_ok (c : Nat) (r : vw_C) (h : vwCl[c]? = some r) : Cond.instantiable r.1 r.2.2 ∈ zTb := by
  match c, h with
  | 0, h => cases h; exact ki_0
  | 1, h => cases h; exact ki_1
  | 2, h => cases h; exact ki_2
  | 3, h => cases h; exact ki_3
  | 4, h => cases h; exact ki_4
  | 5, h => cases h; exact ki_5
  | 6, h => cases h; exact ki_6
  | 7, h => cases h; exact ki_7
  | 8, h => cases h; exact ki_8
  | 9, h => cases h; exact ki_9
  | 10, h => cases h; exact ki_10
  | 11, h => cases h; exact ki_11
  | 12, h => cases h; exact ki_12
  | n + 13, h => simp at h
def kfl1 : List Cond := flatC (Jvm.Cond.and given_1 narrow_1)
def kS0 (g : zG) (U : State) : Prop := va_K (zD g) vwCl (zTy g) U ∧ va_Z RX0 "PLACE" "[J" (.ref (zad g 1000)) (zA g) U U.heap ∧ va_Z RX8 "PLACE" "[J" (.ref (zad g 1001)) (zA g) U U.heap ∧ zRT g U U.heap ∧ (∀ w ∈ zNw, va_Nw w U) ∧ zSr g U
theorem kSt_z {g : zG} {ad : Nat → Nat} {U : State} (h : kS0 g U) (hA : zAd (kg g ad)) : zSt (kg g ad) U := ⟨h.1, hA, h.2.1, h.2.2.1, h.2.2.2.1, h.2.2.2.2.1, h.2.2.2.2.2⟩
section
variable {s : State} {A : Array Value}
theorem ks_K (hz : ∀ w ∈ zTb, w.before A s = true) : ∃ D : (Nat → ClassId) × (Nat → Nat → Nat), ∀ (c : Nat) (q : vw_C), vwCl[c]? = some q → u_Kn s q.1 q.2.1 q.2.2 (D.1 c) (D.2 c) := by
  have h : ∀ c : Nat, ∃ q : ClassId × (Nat → Nat), ∀ r : vw_C, vwCl[c]? = some r → u_Kn s r.1 r.2.1 r.2.2 q.1 q.2 := by
    intro c
    rcases e : vwCl[c]? with _ | r
    · exact ⟨(0, fun _ => 0), fun r h => by cases h⟩
    · obtain ⟨cC, iS, h⟩ := u_known (ws := zTb) hz (zCf_ok c r.1 r.2.1 r.2.2 e).1 (hz _ (ki_ok c r e))
      exact ⟨(cC, iS), fun r' h' => by cases h'; exact h⟩
  obtain ⟨f, hf⟩ := Classical.axiomOfChoice h
  exact ⟨(fun c => (f c).1, fun c => (f c).2), fun c q hq => hf c q hq⟩
theorem ks_A {ty : FieldType} (h : (Cond.arrayClass ty).before A s = true) : ∃ cA : ClassId, ArrOfT s cA ty ∧ s.vm.findClass ("[" ++ ty.toString) = some cA := by
  obtain ⟨c, k, comp, h1, h2, h3⟩ := Cond.arrayClass_spec h
  exact ⟨c, fun N z => ⟨(fun k h => by cases h), k, h2, comp, h3⟩, h1⟩
theorem ks_O {C : String} (h : (Cond.arrayOver (.object C)).before A s = true) : ∃ cA : ClassId, ArrOfT s cA (.object C) ∧ va_RA s cA (.object C) := by
  obtain ⟨comp, c, k, h1, h2, h3, h4, h5⟩ := Cond.arrayOver_spec h
  exact ⟨c, fun N z => ⟨(fun k h => by cases h), k, h3, comp, h4⟩, k, comp, h3, h4, h1, h5⟩
theorem ks_R {own tx : String} {k : Nat} (h1 : (Cond.stringRef own k tx).before A s = true) (h2 : (Cond.exactly (.string own k) "java/lang/String").before A s = true) : ∃ a : Nat, vk_R own k tx a s := by
  obtain ⟨a, c, cA, kA, q1, -⟩ := Cond.exactly_spec (args := A) (first := s) (o := none) (s := s) (idx := []) (t := .string own k) (cls := "java/lang/String") h2
  exact ⟨a, vk_R.of h1 q1⟩
def kB8 : List Int32 := [108, 99, 118, 100, 115, 110, 98, 104]
theorem ks_S {P : Nat → Prop} (hs : ∀ w ∈ kfl1, w.before A s = true) (hA : ∀ a : Nat, a < s.heap.size → ¬ P a) : ∃ a v : Nat, vk_S 1 [8] [kB8] (fun _ => a) (fun _ => v) P s s.heap ∧ (Term.string RX6 73).eval A s none [] s = some (.ref a) := by
  obtain ⟨adK, adV, h1, h2⟩ := vk_Sof (args := A) (s := s) (N := 1) (tm := fun _ => .string RX6 73) (len := [8]) (byt := [kB8]) (A := P) (by decide) (fun i hi => hs _ (by decide +kernel)) (fun i hi => hs _ (by decide +kernel)) (fun i hi => hs _ (by decide +kernel))
    (fun i hi => hs _ ((show ∀ i : Nat, i < 1 → Cond.eq (.length (.field (.string RX6 73) "java/lang/String" "value" "[B")) (.int (Int32.ofNat ([8].getD i 0))) ∈ kfl1 by decide +kernel) i hi))
    (fun i hi j hj => hs _ ((show ∀ i : Nat, i < 1 → ∀ j : Nat, j < [8].getD i 0 → Cond.eq (.elem (.field (.string RX6 73) "java/lang/String" "value" "[B") (.int (Int32.ofNat j))) (.int (([kB8].getD i []).getD j 0)) ∈ kfl1 by decide +kernel) i hi j hj))
    (fun i j hi hj hij => absurd (by omega) hij) hA
  refine ⟨adK 0, adV 0, ⟨fun i hi => ?_, fun i j hi hj _ => by omega⟩, h2 0 (by decide)⟩
  have e : i = 0 := by omega
  subst e
  exact h1.1 0 (by decide)
theorem ks_T0 {P : Nat → Prop} (hs : ∀ w ∈ kfl1, w.before A s = true) (hA : ∀ a : Nat, a < s.heap.size → ¬ P a) : ∃ t : Nat, (Term.static RX0 "PLACE" "[J").eval A s none [] s = some (.ref t) ∧ va_T .long t 6 (fun i => .long (Int64.ofInt (zRo 1000 (i : Int)))) P s s.heap :=
  va_Tof (by decide) (hs _ (by decide +kernel)) (va_eqt (hs _ (by decide +kernel))) (fun j hj => va_eqtl (hs _ ((show ∀ j : Nat, j < 6 → Cond.eq (.elem (.static RX0 "PLACE" "[J") (.int (Int32.ofNat j))) (.long (Int64.ofInt (zRo 1000 (j : Int)))) ∈ kfl1 by decide +kernel) j hj))) hA
theorem ks_T1 {P : Nat → Prop} (hs : ∀ w ∈ kfl1, w.before A s = true) (hA : ∀ a : Nat, a < s.heap.size → ¬ P a) : ∃ t : Nat, (Term.static RX8 "PLACE" "[J").eval A s none [] s = some (.ref t) ∧ va_T .long t 8 (fun i => .long (Int64.ofInt (zRo 1001 (i : Int)))) P s s.heap :=
  va_Tof (by decide) (hs _ (by decide +kernel)) (va_eqt (hs _ (by decide +kernel))) (fun j hj => va_eqtl (hs _ ((show ∀ j : Nat, j < 8 → Cond.eq (.elem (.static RX8 "PLACE" "[J") (.int (Int32.ofNat j))) (.long (Int64.ofInt (zRo 1001 (j : Int)))) ∈ kfl1 by decide +kernel) j hj))) hA
theorem ks_all (l : Launch) (hts : ∀ w ∈ lw_tbl, w.before A s = true) (hs : ∀ w ∈ kfl1, w.before A s = true) : ∃ g : zG, g.1 = l ∧ g.2.2.2.2.2 = s.heap.size ∧ kS0 g s ∧ kSt g s ∧ zXs g s ∧ ¬ zA g (zad g 1000) ∧ ¬ zA g (zad g 1001) := by
  have hz : ∀ w ∈ zTb, w.before A s = true := fun w hw => hts w (List.mem_filter.mp hw).1
  obtain ⟨D, hD⟩ := ks_K hz
  obtain ⟨c0, a0, b0⟩ := ks_A (ty := .int) (hts _ (by decide +kernel))
  obtain ⟨c1, a1, b1⟩ := ks_A (ty := .boolean) (hts _ (by decide +kernel))
  obtain ⟨c2, a2, b2⟩ := ks_A (ty := .byte) (hts _ (by decide +kernel))
  obtain ⟨c3, a3, b3⟩ := ks_A (ty := .long) (hts _ (by decide +kernel))
  have hO : (Cond.arrayOver (.object RX7)).before A s = true := hts _ (by decide +kernel)
  obtain ⟨c4, a4, b4⟩ := ks_O hO
  have hA : ∀ a : Nat, a < s.heap.size → ¬ s.heap.size ≤ a := fun a h => Nat.not_le.mpr h
  obtain ⟨t0, e0, T0⟩ := ks_T0 (P := fun q => s.heap.size ≤ q) hs hA
  obtain ⟨t1, e1, T1⟩ := ks_T1 (P := fun q => s.heap.size ≤ q) hs hA
  obtain ⟨k0, v0, S0, E0⟩ := ks_S (P := fun q => s.heap.size ≤ q) hs hA
  obtain ⟨k1, R1⟩ := ks_R (own := RX11) (k := 188) (tx := "no such engine") (hts _ (by decide +kernel)) (hs _ (by decide +kernel))
  obtain ⟨k2, R2⟩ := ks_R (own := RX11) (k := 213) (tx := "nothing of that number is told of an engine") (hts _ (by decide +kernel)) (hs _ (by decide +kernel))
  obtain ⟨k3, R3⟩ := ks_R (own := RX11) (k := 389) (tx := "the row has no such number") (hts _ (by decide +kernel)) (hs _ (by decide +kernel))
  have hK : va_K D vwCl [(c0, .int), (c1, .boolean), (c2, .byte), (c3, .long), (c4, .object RX7)] s := by
    refine ⟨hD, fun k q hk => ?_⟩
    match k, hk with
    | 0, hk => cases hk; exact ⟨a0, b0⟩
    | 1, hk => cases hk; exact ⟨a1, b1⟩
    | 2, hk => cases hk; exact ⟨a2, b2⟩
    | 3, hk => cases hk; exact ⟨a3, b3⟩
    | 4, hk => cases hk; exact ⟨a4, b4⟩
    | n + 5, hk => cases hk
  refine ⟨(l, D.1, D.2, (fun k => [c0, c1, c2, c3, c4].getD k 0), (fun j => [t0, t1, k0, k1, k2, k3, v0].getD (j - 1000) 0), s.heap.size), rfl, rfl, ⟨hK, ?_, ?_, ⟨T0, T1⟩, fun w hw => ?_, ⟨?_, R1, R2, R3, S0, ?_⟩⟩, ⟨hK, va_AO.of hO, fun q hq => ?_⟩, ⟨?_, ?_, fun w hw => ?_⟩, T0.choose_spec.2.2.2.2.2.2, T1.choose_spec.2.2.2.2.2.2⟩
  · exact va_Zref (hts _ (by decide +kernel)) (hts _ (by decide +kernel)) e0 hA
  · exact va_Zref (hts _ (by decide +kernel)) (hts _ (by decide +kernel)) e1 hA
  · obtain ⟨a, i, b, n, d, e, rfl⟩ := zNw_form hw
    exact va_any rfl (hts _ (List.mem_filter.mp hw).1)
  · exact vk_R.of (hts _ (by decide +kernel)) E0
  · exact va_Zof (hts _ (by decide +kernel)) (hts _ (by decide +kernel)) (va_eqi (hs _ (by decide +kernel))) hA
  · exact va_any rfl (hts _ ((show ∀ q ∈ kNm, Cond.methodLinkNest RX11 q.1 q.2 RX11 ∈ lw_tbl by decide +kernel) q hq))
  · exact vx_Zqof (hts _ (by decide +kernel)) (hts _ (by decide +kernel)) (hs _ (by decide +kernel)) hA
  · exact vx_Zqof (hts _ (by decide +kernel)) (hts _ (by decide +kernel)) (hs _ (by decide +kernel)) hA
  · exact va_any (zAt_f w hw).2 (hts _ (zAt_l w hw))
end
