-- needs 89
/-! coaled, fill: the reference's two calls; the class: who is meant, who is called up -/
theorem zbit_ushr (x : Int) {n : Nat} (h : n < 32) (i : Nat) : zbit (zushr x (n : Int)) i = zbit x (n + i) := by
  unfold zbit
  rw [zv_ushr x n h, BitVec.getLsbD_ushiftRight]
theorem zushr_0 {x : Int} {n : Nat} (hx : zI32 x) (hn : n ≤ 12) : zushr x (n : Int) = 0 ↔ 0 ≤ x ∧ x < ((2 ^ n : Nat) : Int) := by
  have p := p2_12 hn
  constructor
  · intro h
    have hb : ∀ i, n ≤ i → zbit x i = false := by
      intro i hi
      have := zbit_ushr x (n := n) (by omega) (i - n)
      rw [h, zbit_0, show n + (i - n) = i from by omega] at this
      exact this.symm
    have lt := f_bits_lt (fun i => zbit x i) n
    have : x = ((f_bits (fun i => zbit x i) n : Nat) : Int) := zb_ext hx (zI32_nat (by omega)) (fun i hi => by
      rw [zbit_nat _ _ hi, f_bits_test]
      by_cases q : i < n
      · rw [decide_eq_true q, Bool.true_and]
      · rw [decide_eq_false q, Bool.false_and, hb i (by omega)])
    omega
  · intro h
    obtain ⟨m, rfl⟩ : ∃ m : Nat, x = (m : Int) := ⟨x.toNat, by omega⟩
    refine zb_ext (zI32_to _) (zI32_nat (m := 0) (by omega)) (fun i hi => ?_)
    rw [zbit_ushr _ (by omega), zbit_0]
    by_cases q : n + i < 32
    · rw [zbit_nat _ _ q]
      exact Nat.testBit_lt_two_pow (Nat.lt_of_lt_of_le (show m < 2 ^ n by omega) (Nat.pow_le_pow_right (n := 2) (by omega) (by omega)))
    · exact zbit_big _ _ (by omega)
section
variable {g : zG} {d : Nat} {K : Option zV → zM → Prop} {μ X : zM} {n : Nat} {D : Nat} {x f s nn : Int} {S : zS}
theorem o_share_no (h : ¬ cn_ok (S.1 13 3) x) : o_share S x f = (-1, S) := if_neg h
theorem M_coaled (hd : 40 ≤ d) (hC : mS μ S) (hI : iS nn S) (h : ∀ μ', zEd μ' μ → mS μ' (o_share S x 0).2 → K (some (.inl (o_share S x 0).1)) μ') : zCall g d 245 [.inr (.inr ((0, 12), 119)), .inl x] μ K := by
  have w := hI.env
  have hC0 : mS (zU μ 119 33 0) S := hC.thr
  have hE : zEd (zU μ 119 33 0) μ := (zEd.refl μ).u (by omega)
  refine sX12_coaled ⟨by omega, ?_⟩
  generalize zU μ 119 33 0 = N at *
  have ev := hC0.env
  have e3 : (((S.1 13 3).toNat : Nat) : Int) = S.1 13 3 := by omega
  refine m_areEngines (n := (S.1 13 3).toNat) (by omega) (by omega) (by omega) (fun q => zb1 ?_) (fun q => zb0 ?_)
  · rw [e3] at q
    exact M_coalBy (by omega) hC0 hI q (fun M hM hCM => zi (h M (hM.trans hE) hCM))
  · rw [e3] at q
    rw [o_share_no q] at h
    exact h N hE hC0
theorem M_fill (hd : 40 ≤ d) (hC : mS μ S) (hI : iS nn S) (h : ∀ μ', zEd μ' μ → mS μ' (o_share S x 1).2 → K (some (.inl (o_share S x 1).1)) μ') : zCall g d 246 [.inr (.inr ((0, 12), 119)), .inl x] μ K := by
  have w := hI.env
  have hC0 : mS (zU μ 119 33 0) S := hC.thr
  have hE : zEd (zU μ 119 33 0) μ := (zEd.refl μ).u (by omega)
  refine sX12_fill ⟨by omega, ?_⟩
  generalize zU μ 119 33 0 = N at *
  have ev := hC0.env
  have e3 : (((S.1 13 3).toNat : Nat) : Int) = S.1 13 3 := by omega
  refine m_areEngines (n := (S.1 13 3).toNat) (by omega) (by omega) (by omega) (fun q => zb1 ?_) (fun q => zb0 ?_)
  · rw [e3] at q
    exact M_coalBy (by omega) hC0 hI q (fun M hM hCM => zi (h M (hM.trans hE) hCM))
  · rw [e3] at q
    rw [o_share_no q] at h
    exact h N hE hC0
theorem c_canCount (hd : 2 ≤ d) (hx : zI32 x) (h5 : μ 5 0 = (n : Int)) (hn : n ≤ 12) (h1 : cn_ok (n : Int) x → K (some (.inl 1)) μ) (h0 : ¬ cn_ok (n : Int) x → K (some (.inl 0)) μ) : zCall g d 14 [.inr (.inr ((0, 1), 70)), .inl x] μ K := by
  have p := p2_12 hn
  have z := zushr_0 hx hn
  unfold cn_ok at h1 h0
  rw [show ((n : Int)).toNat = n from by omega] at h1 h0
  by_cases q : 0 ≤ x ∧ x < ((2 ^ n : Nat) : Int)
  · obtain ⟨m, rfl⟩ : ∃ m : Nat, x = (m : Int) := ⟨x.toNat, by omega⟩
    rw [show ((m : Int)).toNat = m from by omega] at h1 h0
    refine sX1_canCount ⟨by omega, j_bcn (by omega) (zi ⟨fun q1 => h0 (fun hh => ?_), fun q1 => ⟨fun q2 => h0 (fun hh => by omega), fun q2 => sX3_hasOthers ⟨fun q3 => zb0 (h1 ⟨?_, q.2, by omega⟩), fun q3 => ?_⟩⟩⟩)⟩
    · have := or_0 (D := m) (by omega) (by omega)
      omega
    · rcases Nat.eq_zero_or_pos m with q4 | q4
      · have : fr_c m 12 = 0 := by rw [q4]; decide
        omega
      · omega
    · rw [h5] at q3
      exact absurd (z.2 q) q3
  · have no : ¬ (0 < x ∧ x < ((2 ^ n : Nat) : Int) ∧ fr_c x.toNat 12 ≤ 7) := fun hh => q ⟨by omega, hh.2.1⟩
    refine sX1_canCount ⟨by omega, j_bc (zi ⟨fun q1 => h0 no, fun q1 => ⟨fun q2 => h0 no, fun q2 => sX3_hasOthers ⟨fun q3 => ?_, fun q3 => zb1 (h0 no)⟩⟩⟩)⟩
    rw [h5] at q3
    exact absurd (z.1 q3) q
/-- who is called up: 75 the engines, 70/7 how many, 73 nothing taken, 70/10 nothing found -/
theorem c_callUp (hd : 1 ≤ d) (h5 : μ 5 0 = (n : Int)) (hn : n ≤ 12) (hD : D < 4096) (hl : (bl D n 0).length ≤ 7)
    (h : ∀ μ', (∀ j, ¬ (j = 70 ∨ j = 73 ∨ j = 75) → μ' j = μ j) → μ' 70 7 = ((bl D n 0).length : Int) → zli (μ' 75) ((bl D n 0).map (fun e : Nat => (e : Int))) → (∀ y, 0 ≤ y ∧ y < 3 → μ' 73 y = 0) → μ' 70 10 = 0 → K none μ') : zCall g d 15 [.inr (.inr ((0, 1), 70)), .inl (D : Int)] μ K := by
  refine sX1_callUp ?_
  have last : ∀ N : zM, (∀ j, ¬ (j = 70 ∨ j = 75) → N j = μ j) → N 70 7 = ((bl D n 0).length : Int) → zli (N 75) ((bl D n 0).map (fun e : Nat => (e : Int))) → zCall g (d - 1) 285 [.inr (.inr ((1, 3), 73)), .inl 0] N (zNn fun μ1 => K none (zU μ1 70 10 0)) := by
    intro N hN h7 h75
    refine c_fill (m := 3) (by omega) (fun M hM h73 => zn (h _ (fun j hj => by rw [zU_off j (by omega), hM j (by omega), hN j (by omega)]) (by rw [zU_ne (by omega), hM 70 (by omega)]; exact h7) (by rw [zU_off 75 (by omega), hM 75 (by omega)]; exact h75) (fun y hy => by rw [zU_off 73 (by omega)]; exact h73 y (by omega)) zU_eq))
  have lp : ∀ (k i : Nat) (pre : List Nat) (N : zM), i + k = n → pre ++ bl D k i = bl D n 0 → (∀ j, ¬ (j = 70 ∨ j = 75) → N j = μ j) → N 70 7 = (pre.length : Int) → zli (N 75) (pre.map (fun e : Nat => (e : Int))) → zT g d mX1_callUp K 7 [some (.inr (.inr ((0, 1), 70))), some (.inl (D : Int)), some (.inl (i : Int))] [] N := by
    intro k
    induction k with
    | zero =>
      intro i pre N hi hpre hN h7 h75
      have hpre : pre ++ [] = bl D n 0 := hpre
      rw [List.append_nil] at hpre
      subst hpre
      refine sX1_callUp_7 ⟨fun _ => ⟨by omega, last N hN h7 h75⟩, fun q => ?_⟩
      rw [hN 5 (by omega)] at q
      omega
    | succ k ih =>
      intro i pre N hi hpre hN h7 h75
      have lpre : pre.length + (bl D (k + 1) i).length = (bl D n 0).length := by rw [← hpre]; simp
      refine sX1_callUp_7 ⟨fun q => ?_, fun _ => ⟨fun q2 => ⟨by omega, ?_⟩, fun q2 => ⟨fun q3 => ?_, fun q3 => ⟨by omega, ?_⟩⟩⟩⟩
      · rw [hN 5 (by omega)] at q
        omega
      · have e0 : bl D (k + 1) i = [] := List.eq_nil_of_length_eq_zero (by omega)
        rw [e0, List.append_nil] at hpre
        subst hpre
        exact last N hN h7 h75
      · have tb : D.testBit i = false := by
          rw [z_tst0 (by omega) (by omega)] at q3
          simpa using q3
        rw [zw_suc (by omega)]
        rw [show bl D (k + 1) i = bl D k (i + 1) from if_neg (by rw [tb]; simp)] at hpre
        exact ih (i + 1) pre N (by omega) hpre hN h7 h75
      · have tb : D.testBit i = true := by
          rw [z_tst0 (by omega) (by omega)] at q3
          simpa using q3
        rw [show bl D (k + 1) i = i :: bl D k (i + 1) from if_pos tb] at hpre
        rw [h7, zw_suc (by omega), zw_suc (by omega)]
        refine ih (i + 1) (pre ++ [i]) _ (by omega) (by rw [← hpre]; simp) (fun j hj => by rw [zU_off j (by omega), zU_off j (by omega)]; exact hN j hj) (by rw [zU_eq]; simp) ?_
        rw [zU_off 75 (by omega), zU_row, List.map_append, show (pre.length : Int) = ((pre.map (fun e : Nat => (e : Int))).length : Int) from by simp]
        exact zli_snoc h75
  exact lp n 0 [] _ (by omega) rfl (fun j hj => zU_off j (by omega)) zU_eq (zli_nil _)
end
