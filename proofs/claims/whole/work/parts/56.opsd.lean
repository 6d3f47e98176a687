-- needs 50 51 52 53 54 55
/-! operations: smoke, move, drag, free, inside; bits of those who stand in stalls, who are lit -/
def f_smk (Y : zM) (e : Nat) : Bool := decide (¬ Y 3 (e : Int) = -1) && (decide (¬ Y 2 (e : Int) = -1) && !f_hooded Y (e : Int))
def f_smoke (Y : zM) : Int := ((f_bits (f_smk Y) 12 : Nat) : Int)
def f_ins (Y : zM) : Nat := f_bits (fun e => decide (¬ Y 2 (e : Int) = -1)) 12
def f_lits (Y : zM) : Nat := f_bits (fun e => decide (¬ Y 3 (e : Int) = -1)) 12
theorem f_bits_12 {p : Nat → Bool} {m : Int} (hm : 0 ≤ m ∧ m ≤ 12) (h : ∀ i : Nat, m ≤ (i : Int) → i < 12 → p i = false) : f_bits p m.toNat = f_bits p 12 := by
  have := f_bits_more (p := p) (n := m.toNat) (12 - m.toNat) (fun i h1 h2 => h i (by omega) (by omega))
  rw [← this]
  congr 1
  omega
section
variable {g : zG} {d : Nat} {K : Option zV → zM → Prop} {μ μ' Y : zM} {s : Nat} {r : List Int} {S : zS} {co : Int → Int} {cn n x y z b i v e p : Int}
theorem c_inStalls (h : K (some (.inl (f_ins (vC μ s) : Int))) μ) : zCall g d 62 [.inr (.inr ((0, 7), s))] μ K := by
  refine sX7_inStalls ?_
  have loop : ∀ (k i : Nat), i + k = 12 → zT g d mX7_inStalls K 4 [some (.inr (.inr ((0, 7), s))), some (.inl (f_bits (fun e => decide (¬ vC μ s 2 (e : Int) = -1)) i : Int)), some (.inl (i : Int))] [] μ := by
    intro k
    induction k with
    | zero =>
      intro i hi
      obtain rfl : i = 12 := by omega
      exact sX7_inStalls_4 ⟨fun _ => h, fun q => by omega⟩
    | succ k ih =>
      intro i hi
      have e2 : vC μ s 2 (i : Int) = μ (s + 3) (i : Int) := y_in (by omega)
      refine sX7_inStalls_4 ⟨fun q => by omega, fun q => ⟨by omega, fun q2 => ?_, fun q2 => ?_⟩⟩
      · rw [zw_suc (by omega), z_no_bit (p := fun e => decide (¬ vC μ s 2 (e : Int) = -1)) (n := i) (by simp [e2, q2])]
        exact ih (i + 1) (by omega)
      · rw [zw_suc (by omega), z_or_bit (p := fun e => decide (¬ vC μ s 2 (e : Int) = -1)) (n := i) (by omega) (by simp [e2, q2])]
        exact ih (i + 1) (by omega)
  exact loop 12 0 (by omega)
theorem c_lit (h : K (some (.inl (f_lits (vC μ s) : Int))) μ) : zCall g d 63 [.inr (.inr ((0, 7), s))] μ K := by
  refine sX7_lit ?_
  have loop : ∀ (k i : Nat), i + k = 12 → zT g d mX7_lit K 4 [some (.inr (.inr ((0, 7), s))), some (.inl (f_bits (fun e => decide (¬ vC μ s 3 (e : Int) = -1)) i : Int)), some (.inl (i : Int))] [] μ := by
    intro k
    induction k with
    | zero =>
      intro i hi
      obtain rfl : i = 12 := by omega
      exact sX7_lit_4 ⟨fun _ => h, fun q => by omega⟩
    | succ k ih =>
      intro i hi
      have e2 : vC μ s 3 (i : Int) = μ (s + 4) (i : Int) := y_in (by omega)
      refine sX7_lit_4 ⟨fun q => by omega, fun q => ⟨by omega, fun q2 => ?_, fun q2 => ?_⟩⟩
      · rw [zw_suc (by omega), z_no_bit (p := fun e => decide (¬ vC μ s 3 (e : Int) = -1)) (n := i) (by simp [e2, q2])]
        exact ih (i + 1) (by omega)
      · rw [zw_suc (by omega), z_or_bit (p := fun e => decide (¬ vC μ s 3 (e : Int) = -1)) (n := i) (by omega) (by simp [e2, q2])]
        exact ih (i + 1) (by omega)
  exact loop 12 0 (by omega)
theorem c_smoking (hd : 2 ≤ d) (hW : y_W (vC μ s)) (h : K (some (.inl (f_smoke (vC μ s)))) μ) : zCall g d 99 [.inr (.inr ((0, 10), 25)), .inr (.inr ((0, 7), s))] μ K := by
  refine sX10_smoking ?_
  have w := w_env hW
  have e13 : vC μ s 13 3 = μ 5 0 := by simp only [vC]; rfl
  have loop : ∀ (k i : Nat), (i : Int) + k = μ 5 0 → zT g d mX10_smoking K 4 [some (.inr (.inr ((0, 10), 25))), some (.inr (.inr ((0, 7), s))), some (.inl (f_bits (f_smk (vC μ s)) i : Int)), some (.inl (i : Int))] [] μ := by
    intro k
    induction k with
    | zero =>
      intro i hi
      refine sX10_smoking_4 ⟨fun _ => ?_, fun q => by omega⟩
      have := f_bits_12 (p := f_smk (vC μ s)) (m := μ 5 0) (by omega) (fun j h1 h2 => by
        have := (hW.2.2.2 (j : Int) (by omega)).2.2.2 (by omega)
        simp [f_smk, this.2.1])
      rw [show i = (μ 5 0).toNat from by omega, this]
      exact h
    | succ k ih =>
      intro i hi
      have e2 : vC μ s 2 (i : Int) = μ (s + 3) (i : Int) := y_in (by omega)
      have e3 : vC μ s 3 (i : Int) = μ (s + 4) (i : Int) := y_in (by omega)
      have no : f_smk (vC μ s) i = false → zT g d mX10_smoking K 4 [some (.inr (.inr ((0, 10), 25))), some (.inr (.inr ((0, 7), s))), some (.inl (f_bits (f_smk (vC μ s)) i : Int)), some (.inl (zw ((i : Int) + 1)))] [] μ := by
        intro q
        rw [zw_suc (by omega), z_no_bit q]
        exact ih (i + 1) (by omega)
      refine sX10_smoking_4 ⟨fun q => by omega, fun q => ⟨by omega, fun q2 => no (by simp [f_smk, e3, q2]), fun q2 => ⟨by omega, c_onRoad (by omega) (fun q3 => zb1 (no (by simp [f_smk, e2, q3]))) (fun q3 => zb0 (c_isHooded (by omega) hW (by omega) (fun q4 => zb1 (no (by simp [f_smk, q4]))) (fun q4 => zb0 ?_)))⟩⟩⟩
      rw [zw_suc (by omega), z_or_bit (by omega) (by simp [f_smk, e2, e3, q2, q3, q4])]
      exact ih (i + 1) (by omega)
  exact loop (μ 5 0).toNat 0 (by omega)
theorem m_smoking (hd : 2 ≤ d) (hW : y_W (vM μ co cn)) (h : K (some (.inl (f_smoke (vM μ co cn)))) μ) : zCall g d 205 [.inr (.inr ((0, 12), 119))] μ K := by
  refine sX12_smoking ?_
  have w := v_env hW
  have e13 : vM μ co cn 13 3 = μ 119 6 := by simp only [vM]; rfl
  have loop : ∀ (k i : Nat), (i : Int) + k = μ 119 6 → zT g d mX12_smoking K 4 [some (.inr (.inr ((0, 12), 119))), some (.inl (f_bits (f_smk (vM μ co cn)) i : Int)), some (.inl (i : Int))] [] μ := by
    intro k
    induction k with
    | zero =>
      intro i hi
      refine sX12_smoking_4 ⟨fun _ => ?_, fun q => by omega⟩
      have := f_bits_12 (p := f_smk (vM μ co cn)) (m := μ 119 6) (by omega) (fun j h1 h2 => by
        have := (hW.2.2.2 (j : Int) (by omega)).2.2.2 (by omega)
        simp [f_smk, this.2.1])
      rw [show i = (μ 119 6).toNat from by omega, this]
      exact h
    | succ k ih =>
      intro i hi
      have e2 : vM μ co cn 2 (i : Int) = μ 130 (i : Int) := y_in (by omega)
      have e3 : vM μ co cn 3 (i : Int) = μ 131 (i : Int) := y_in (by omega)
      have no : f_smk (vM μ co cn) i = false → zT g d mX12_smoking K 4 [some (.inr (.inr ((0, 12), 119))), some (.inl (f_bits (f_smk (vM μ co cn)) i : Int)), some (.inl (zw ((i : Int) + 1)))] [] μ := by
        intro q
        rw [zw_suc (by omega), z_no_bit q]
        exact ih (i + 1) (by omega)
      refine sX12_smoking_4 ⟨fun q => by omega, fun q => ⟨by omega, fun q2 => no (by simp [f_smk, e2, q2]), fun q2 => ⟨fun q3 => no (by simp [f_smk, e3, q3]), fun q3 => ⟨by omega, m_hooded (co := co) (cn := cn) (by omega) hW (by omega) (fun q4 => zb1 (no (by simp [f_smk, q4]))) (fun q4 => zb0 ?_)⟩⟩⟩⟩
      rw [zw_suc (by omega), z_or_bit (by omega) (by simp [f_smk, e2, e3, q2, q3, q4])]
      exact ih (i + 1) (by omega)
  exact loop (μ 119 6).toNat 0 (by omega)
theorem m_inStalls (hW : y_W (vM μ co cn)) (h : K (some (.inl (f_ins (vM μ co cn) : Int))) μ) : zCall g d 221 [.inr (.inr ((0, 12), 119))] μ K := by
  refine sX12_inStalls ?_
  have w := v_env hW
  have e13 : vM μ co cn 13 3 = μ 119 6 := by simp only [vM]; rfl
  have loop : ∀ (k i : Nat), (i : Int) + k = μ 119 6 → zT g d mX12_inStalls K 4 [some (.inr (.inr ((0, 12), 119))), some (.inl (f_bits (fun e => decide (¬ vM μ co cn 2 (e : Int) = -1)) i : Int)), some (.inl (i : Int))] [] μ := by
    intro k
    induction k with
    | zero =>
      intro i hi
      refine sX12_inStalls_4 ⟨fun _ => ?_, fun q => by omega⟩
      have := f_bits_12 (p := fun e => decide (¬ vM μ co cn 2 (e : Int) = -1)) (m := μ 119 6) (by omega) (fun j h1 h2 => by
        have := (hW.2.2.2 (j : Int) (by omega)).2.2.2 (by omega)
        simp [this.1])
      rw [show i = (μ 119 6).toNat from by omega, this]
      exact h
    | succ k ih =>
      intro i hi
      have e2 : vM μ co cn 2 (i : Int) = μ 130 (i : Int) := y_in (by omega)
      have lt := f_bits_lt (fun e => decide (¬ vM μ co cn 2 (e : Int) = -1)) i
      have lt2 : 2 ^ i < 2147483648 := Nat.pow_lt_pow_right (a := 2) (n := 31) (by omega) (by omega)
      refine sX12_inStalls_4 ⟨fun q => by omega, fun q => ⟨by omega, fun q2 => ?_, fun q2 => ?_⟩⟩
      · rw [zw_suc (by omega), z_or_bit (p := fun e => decide (¬ vM μ co cn 2 (e : Int) = -1)) (n := i) (by omega) (by simp [e2, q2])]
        exact ih (i + 1) (by omega)
      · have z0 := zor_nat (a := f_bits (fun e => decide (¬ vM μ co cn 2 (e : Int) = -1)) i) (b := 0) (by omega) (by omega)
        rw [Nat.or_zero] at z0
        rw [zw_suc (by omega), show (0 : Int) = ((0 : Nat) : Int) from rfl, z0, z_no_bit (p := fun e => decide (¬ vM μ co cn 2 (e : Int) = -1)) (n := i) (by simp [e2, q2])]
        exact ih (i + 1) (by omega)
  exact loop (μ 119 6).toNat 0 (by omega)
def o_smoke (S : zS) : Int × zS := (f_smoke S.1, S)
theorem C_smoke (hd : 3 ≤ d) (hC : cS μ S) (hI : iS n S) (h : ∀ μ', zEc μ' μ → cS μ' (o_smoke S).2 → K (some (.inl (o_smoke S).1)) μ') : zCall g d 123 [.inr (.inr ((0, 11), 0))] μ K := by
  refine sX11_smoke ⟨by omega, c_smoking (by omega) (hC.W hI) (zi ?_)⟩
  rw [hC.1.1]
  exact h μ (zEc.refl μ) hC
theorem M_smoke (hd : 3 ≤ d) (hC : mS μ S) (hI : iS n S) (h : ∀ μ', zEd μ' μ → mS μ' (o_smoke S).2 → K (some (.inl (o_smoke S).1)) μ') : zCall g d 206 [.inr (.inr ((0, 12), 119))] μ K := by
  have hC0 : mS (zU μ 119 33 0) S := hC.thr
  refine sX12_smoke ⟨by omega, m_smoking (co := S.1 14) (cn := S.1 15 0) (by omega) (hC0.W hI) (zi ?_)⟩
  rw [hC0.1.1]
  exact h _ ((zEd.refl μ).u (by omega)) hC0
/-- a move of the class where all stand, the dead as they were -/
theorem c_shift2 {k : Int} (hd : 2 ≤ d) (hs : 20 ≤ s) (hr : zrl μ) (hW : y_W (vC μ s)) (he : 0 ≤ e ∧ e < 12) (hx : 0 ≤ x ∧ x ≤ μ 1 0) (hk : k = 1 ∨ k = 2)
    (h : ∀ μ', (∀ j, ¬ (s ≤ j ∧ j ≤ s + 3) → μ' j = μ j) → μ' s 2 = μ s 2 → vC μ' s = f_bring (vC μ s) e x (k * f_min (vC μ s) (f_point (vC μ s) e) x) → K (some (.inl (k * f_min (vC μ s) (f_point (vC μ s) e) x))) μ') : zCall g d 105 [.inr (.inr ((0, 10), 25)), .inr (.inr ((0, 7), s)), .inl e, .inl x, .inl k] μ K := by
  have w1 := w_env hW
  have w2 := w_tn hW
  have e13 : vC μ s 13 0 = μ 1 0 := by simp [vC, y_cl]
  have e51 : vC μ s 5 1 = μ s 1 := by simp [vC, y_cl]
  have bp := f_point_b hW he
  have bm := f_min_b hW bp (b := x) (by omega)
  refine sX10_shift ⟨by omega, c_pointOf (by omega) he (zi (c_minutes (by omega) hW (by omega) hx (zi ?_)))⟩
  generalize hm : f_min (vC μ s) (f_point (vC μ s) e) x = m at *
  have hkm : zw (k * m) = k * m := by rcases hk with rfl | rfl <;> exact zwi (by omega) (by omega)
  have hkb : 0 ≤ k * m ∧ k * m ≤ 468 := by rcases hk with rfl | rfl <;> omega
  rw [hkm]
  generalize hkt : k * m = t at *
  have fin : ∀ M, (∀ j, ¬ (s + 1 ≤ j ∧ j ≤ s + 3) → M j = μ j) → vC M s = f_put (vC μ s) e x → K (some (.inl t)) (zU (zU M s 0 x) s 1 (zw (zU M s 0 x s 1 + t))) := by
    intro M hM hv
    have rM : zrl M := zrl_same hr (hM 12 (by omega))
    have e1 : zU M s 0 x s 1 = μ s 1 := by rw [zU_ne (by omega), hM s (by omega)]
    rw [e1, zwi (x := μ s 1 + t) (by omega) (by omega)]
    refine h _ (fun j hj => by rw [zU_off j (by omega), zU_off j (by omega), hM j (by omega)]) (by rw [zU_ne (by omega), zU_ne (by omega), hM s (by omega)]) ?_
    rw [vU5 (zrl_U rM (by omega)) hs (Or.inr rfl), vU5 rM hs (Or.inl rfl), hv]
    unfold f_bring
    rw [e51]
  refine ⟨fun q => c_bring hs hr hW he (Or.inr (by omega)) (fun M hM hv => zn (fin M hM ?_)), fun q => c_bring hs hr hW he (Or.inl rfl) (fun M hM hv => zn (fin M hM ?_))⟩
  · rw [hv, if_neg (by omega)]
  · rw [hv, if_pos rfl, q]
/-- a yard that moved: the class's picture -/
theorem cS.bring {t : Int} (hC : cS μ S) (e1 : ∀ j, ¬ (20 ≤ j ∧ j ≤ 20 + 3) → μ' j = μ j) (e2 : μ' 20 2 = μ 20 2) (hv : vC μ' 20 = f_bring S.1 e p t) : cS μ' (sY S (f_bring S.1 e p t)) := by
  refine hC.yard ⟨hv, zrl_same hC.1.2.1 (e1 12 (by omega)), by rw [e1 12 (by omega)]; exact hC.1.2.2.1, ?_⟩ (fun j hj _ => e1 j (by omega))
  rw [e2, f_bring_k (by omega) (by omega)]
  exact hC.1.2.2.2
theorem mS.bring {t : Int} (hC : mS μ S) (e1 : zEv μ' μ) (hv : vM μ' (S.1 14) (S.1 15 0) = f_bring S.1 e p t) : mS (zU μ' 119 42 0) (sY S (f_bring S.1 e p t)) := by
  have k14 : f_bring S.1 e p t 14 = S.1 14 := f_bring_k (by omega) (by omega)
  have k15 : f_bring S.1 e p t 15 = S.1 15 := f_bring_k (by omega) (by omega)
  refine hC.yard ⟨?_, ?_, zU_eq⟩ (fun j hj hs => ?_) (fun i hi hs => ?_) (by rw [f_bring_13])
  · rw [k14, k15, mUs (by omega)]; exact hv
  · rw [k14, k15, zU_off 138 (by omega), zU_ne (by omega), e1.1 138 (by omega), e1.2 28 (by omega)]
    exact hC.1.2.1
  · unfold z_scm at hs
    rw [zU_off j (by omega), e1.1 j (by omega)]
  · unfold z_scs at hs
    rw [zU_ne (by omega), e1.2 i (by omega)]
def o_move (S : zS) (e p : Int) : Int × zS := if (0 ≤ e ∧ e < S.1 13 3) ∧ (0 ≤ p ∧ p ≤ S.1 13 0) ∧ f_may S.1 e (S.1 5 1) = true ∧ f_can S.1 e p = true then (f_min S.1 (f_point S.1 e) p, sY S (f_bring S.1 e p (f_min S.1 (f_point S.1 e) p))) else (-1, S)
theorem C_move (hd : 6 ≤ d) (hC : cS μ S) (hI : iS n S) (h : ∀ μ', zEc μ' μ → cS μ' (o_move S e p).2 → K (some (.inl (o_move S e p).1)) μ') : zCall g d 125 [.inr (.inr ((0, 11), 0)), .inl e, .inl p] μ K := by
  have w := hI.env
  have nw := hI.now
  have ev := hC.env
  have hv := hC.1.1
  have no : ¬ ((0 ≤ e ∧ e < S.1 13 3) ∧ (0 ≤ p ∧ p ≤ S.1 13 0) ∧ f_may S.1 e (S.1 5 1) = true ∧ f_can S.1 e p = true) → ∀ M, zEq16 M μ → K (some (.inl (-1))) M := by
    intro q M hM
    unfold o_move at h
    rw [if_neg q] at h
    exact h M (fun j hj => hM j (by omega)) (hC.scr (fun j hj => hM j (by unfold z_scr at hj; omega)))
  refine sX11_move ⟨by omega, c_has (fun q => zb1 (c_hasPoint (fun q2 => zb1 (c_mayGo (by omega) (hC.W hI) (by omega) (by omega) (fun q3 => zb1 (c_canGoTo (by omega) (by omega) hC.1.2.1 (hC.W hI) (by rw [hv]; exact hI.R) (by omega) (by omega) (fun M hM q4 => zb1 ?_) (fun M hM q4 => zb0 (no (fun hh => ?_) M hM)))) (fun q3 => zb0 (no (fun hh => ?_) μ (zEq16.refl μ))))) (fun q2 => zb0 (no (fun hh => q2 (by omega)) μ (zEq16.refl μ))))) (fun q => zb0 (no (fun hh => q (by omega)) μ (zEq16.refl μ)))⟩
  · rw [hv] at q4
    rw [hv, ev.2.2.2.2.2] at q3
    have hvM : vC M 20 = S.1 := by rw [hM.v hC.1.2.1 (by omega), hv]
    have hCM : cS M S := hC.scr (fun j hj => hM j (by unfold z_scr at hj; omega))
    refine c_shift2 (by omega) (by omega) hCM.1.2.1 (hCM.W hI) (by omega) (by rw [hCM.env.1]; omega) (Or.inl rfl) (fun N hN hN2 hvN => zi ?_)
    rw [hvM, Int.one_mul] at hvN ⊢
    unfold o_move at h
    rw [if_pos ⟨by omega, by omega, q3, q4⟩] at h
    exact h N (fun j hj => by rw [hN j (by omega), hM j (by omega)]) (hCM.bring hN hN2 hvN)
  · rw [hv] at q4
    rw [q4] at hh
    cases hh.2.2.2
  · rw [hv, ev.2.2.2.2.2] at q3
    rw [q3] at hh
    cases hh.2.2.1
theorem M_move (hd : 330 ≤ d) (hC : mS μ S) (hI : iS n S) (h : ∀ μ', zEd μ' μ → mS μ' (o_move S e p).2 → K (some (.inl (o_move S e p).1)) μ') : zCall g d 214 [.inr (.inr ((0, 12), 119)), .inl e, .inl p] μ K := by
  have w := hI.env
  have nw := hI.now
  have hC0 : mS (zU μ 119 33 0) S := hC.thr
  have hE : zEd (zU μ 119 33 0) μ := (zEd.refl μ).u (by omega)
  refine sX12_move ⟨by omega, ?_⟩
  generalize zU μ 119 33 0 = N at *
  have ev := hC0.env
  have hv := hC0.1.1
  have no : ¬ ((0 ≤ e ∧ e < S.1 13 3) ∧ (0 ≤ p ∧ p ≤ S.1 13 0) ∧ f_may S.1 e (S.1 5 1) = true ∧ f_can S.1 e p = true) → ∀ M, zEm M N → K (some (.inl (-1))) M := by
    intro q M hM
    unfold o_move at h
    rw [if_neg q] at h
    exact h M ((zEd.m hM).trans hE) (hC0.m hM)
  refine m_isEngine (by omega) (by omega) (fun q => zb1 (m_isPoint (by omega) (fun q2 => zb1 (m_mayGo (co := S.1 14) (cn := S.1 15 0) (by omega) (hC0.W hI) (by omega) (fun q3 => zb1 (m_canBe (co := S.1 14) (cn := S.1 15 0) (by omega) (hC0.W hI) hC0.1.2.1 (by omega) (by omega) (fun M hM q4 => zb1 ?_) (fun M hM q4 => zb0 (no (fun hh => ?_) M hM)))) (fun q3 => zb0 (no (fun hh => ?_) N (zEm.refl N))))) (fun q2 => zb0 (no (fun hh => q2 (by omega)) N (zEm.refl N))))) (fun q => zb0 (no (fun hh => q (by omega)) N (zEm.refl N)))
  · rw [hv] at q4
    rw [hv, ev.2.2.2.2.2] at q3
    have hCM := hC0.m hM
    have hvM := hCM.1.1
    have ha : f_ahead S.1 e = -1 := by
      unfold f_can at q4
      simp at q4
      exact q4.2.1
    have bm := f_min_b hI.W (f_point_b hI.W (e := e) (by omega)) (b := p) (by omega)
    refine m_cost (co := S.1 14) (cn := S.1 15 0) (by omega) (hCM.W hI) (by rw [hCM.env.2.2.2.1]; omega) (by rw [hCM.env.1]; omega) (zi ?_)
    rw [hvM]
    refine m_bring (co := S.1 14) (cn := S.1 15 0) (by omega) (hCM.W hI) (by rw [hCM.env.2.2.2.1]; omega) (by rw [hvM]; exact ha) (by rw [hCM.env.1]; omega) (by omega) (by rw [hCM.1.2.2]; omega) (fun P hP _ _ _ hvP => zn ?_)
    rw [hvM] at hvP
    unfold o_move at h
    rw [if_pos ⟨by omega, by omega, q3, q4⟩] at h
    have hPM : zEd P M := fun j hj => hP.1 j (by omega)
    exact h _ ((hPM.trans ((zEd.m hM).trans hE)).u (by omega)) (hCM.bring hP hvP)
  · rw [hv] at q4
    rw [q4] at hh
    cases hh.2.2.2
  · rw [hv, ev.2.2.2.2.2] at q3
    rw [q3] at hh
    cases hh.2.2.1
end
