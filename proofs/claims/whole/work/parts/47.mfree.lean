-- needs 20.walks 30 31 32 33 34 35 36 37 38 39 40 41 42 43 44 45 46 21.s06 21.s07 21.s08
/-! the reference's yard: who is taken, moves, one gets out -/
section
variable {g : zG} {d : Nat} {K : Option zV → zM → Prop} {μ : zM} {co : Int → Int} {cn e a b x y p t : Int}
theorem m_isTaking (hd : 311 ≤ d) (hW : y_W (vM μ co cn)) (hR : zRu (μ 138) (μ 119 28) co cn) (he : 0 ≤ e ∧ e < μ 119 6) (hx : 0 ≤ x ∧ x < 23)
    (h1 : ∀ μ', zEm μ' μ → ¬ μ 130 e = x → f_takes (vM μ co cn) x e = true → K (some (.inl 1)) μ') (h0 : ∀ μ', zEm μ' μ → (μ 130 e = x ∨ f_takes (vM μ co cn) x e = false) → K (some (.inl 0)) μ') : zCall g d 203 [.inr (.inr ((0, 12), 119)), .inl x, .inl e] μ K := by
  have w2 := v_en hW he
  have w4 := v_st hW hx
  have w1 := v_env hW
  have w5 := hW.2.2.1 x hx
  have v8 : vM μ co cn 8 x = μ 122 x := y_in hx
  have v1 : vM μ co cn 1 x = μ 124 x := y_in hx
  have v0 : vM μ co cn 0 x = μ 123 x := y_in hx
  have v9 : vM μ co cn 9 e = μ 125 e := y_in (by omega)
  have v6 : vM μ co cn 6 x = μ 120 x := y_in hx
  have hl : 0 ≤ f_len (vM μ co cn) x ∧ f_len (vM μ co cn) x ≤ 60 := by
    have s1 : ∀ e, 0 ≤ e ∧ e < 12 → 0 ≤ vM μ co cn 9 e ∧ vM μ co cn 9 e ≤ 30 := fun e he => by have := (hW.2.2.2 e he).1; omega
    unfold f_len
    rw [v0, v1]
    have a0 := s1 (μ 123 x)
    have a1 := s1 (μ 124 x)
    split <;> split <;> omega
  have rest : μ 122 x = 0 → ¬ μ 130 e = x → μ 124 x = -1 → zT g d mX12_isTaking K 39 [some (.inr (.inr ((0, 12), 119))), some (.inl x), some (.inl e)] [] μ := by
    intro q qn q2
    refine sX12_isTaking_39 ⟨by omega, m_lengthIn hW hx (zi ⟨by omega, hx, ?_⟩)⟩
    rw [zwi (x := f_len (vM μ co cn) x + μ 125 e) (by omega) (by omega)]
    refine ⟨fun q3 => ?_, fun q3 => ⟨fun q4 => ?_, fun q4 => ?_⟩⟩
    · refine h0 μ (zEm.refl μ) (Or.inr ?_)
      have : ¬ f_len (vM μ co cn) x + vM μ co cn 9 e ≤ vM μ co cn 6 x := by rw [v9, v6]; omega
      simp [f_takes, this]
    · refine m_isLet (bb := false) (by omega) hW hR he hx rfl (fun μ' hE q5 => zb1 (h1 μ' hE qn ?_)) (fun μ' hE q5 => zb0 (h0 μ' hE (Or.inr ?_)))
      · simp only [f_takes, v8, v1, v0, v9, v6, q, q2, q3]; simp [q4, q5]
      · simp only [f_takes, v8, v1, v0, v9, v6, q, q2, q3]; simp [q4, q5]
    · refine m_isLet (bb := true) (by omega) hW hR he hx rfl (fun μ' hE q5 => zb1 (h1 μ' hE qn ?_)) (fun μ' hE q5 => zb0 (h0 μ' hE (Or.inr ?_)))
      · simp only [f_takes, v8, v1, v0, v9, v6, q, q2, q3]; simp [q4, q5]
      · simp only [f_takes, v8, v1, v0, v9, v6, q, q2, q3]; simp [q4, q5]
  refine sX12_isTaking ⟨by omega, fun q => h0 μ (zEm.refl μ) (Or.inl q), fun qn => ⟨hx, fun q => h0 μ (zEm.refl μ) (Or.inr (by simp [f_takes, v8, q])), fun q => ⟨fun q2 => rest q qn ?_, fun q2 => ⟨fun q3 => h0 μ (zEm.refl μ) (Or.inr (by simp [f_takes, v1, q3])), fun q3 => rest q qn q3⟩⟩⟩⟩
  · have w6 := w5.2.2.2
    rw [v1, v0] at w6
    omega
theorem m_canBe (hd : 312 ≤ d) (hW : y_W (vM μ co cn)) (hR : zRu (μ 138) (μ 119 28) co cn) (he : 0 ≤ e ∧ e < μ 119 6) (hx : 0 ≤ x ∧ x ≤ μ 119 0)
    (h1 : ∀ μ', zEm μ' μ → f_can (vM μ co cn) e x = true → K (some (.inl 1)) μ') (h0 : ∀ μ', zEm μ' μ → f_can (vM μ co cn) e x = false → K (some (.inl 0)) μ') : zCall g d 211 [.inr (.inr ((0, 12), 119)), .inl e, .inl x] μ K := by
  have w1 := v_env hW
  have w2 := v_en hW he
  have e13 : vM μ co cn 13 0 = μ 119 0 := by simp [vM]
  have e2 : vM μ co cn 2 e = μ 130 e := y_in he
  refine sX12_canBe ⟨by omega, m_ahead (co := co) (cn := cn) (by omega) (by omega) (by omega) (zi ⟨fun q => h0 μ (zEm.refl μ) (by simp [f_can, q]), fun q => m_pointOf (co := co) (cn := cn) (by omega) (zi ⟨fun q2 => h0 μ (zEm.refl μ) (by simp [f_can, q2]), fun q2 => ⟨fun q3 => h1 μ (zEm.refl μ) ?_, fun q3 => ?_⟩⟩)⟩)⟩
  · have : ¬ x = f_point (vM μ co cn) e := fun h => q2 h.symm
    unfold f_can f_stand
    rw [decide_eq_true this, decide_eq_true q, e13, decide_eq_true q3]
    rfl
  · have hne : ¬ x = f_point (vM μ co cn) e := fun h => q2 h.symm
    refine m_isTaking (by omega) hW hR he (by omega) (fun μ' hE _ q5 => zb1 (h1 μ' hE ?_)) (fun μ' hE q5 => zb0 (h0 μ' hE ?_))
    · simp [f_can, hne, q, f_stand, q5]
    · rcases q5 with q5 | q5
      · exfalso
        apply q2
        unfold f_point
        rw [e2, if_neg (by omega)]
        exact q5
      · simp [f_can, f_stand, q5, e13, q3]
/-- the cells of places -/
def zEp (μ' μ : zM) : Prop := ∀ j, ¬ (j = 123 ∨ j = 124 ∨ j = 130) → μ' j = μ j
theorem m_takeOut (hW : y_W (vM μ co cn)) (he : 0 ≤ e ∧ e < μ 119 6) (h : ∀ μ', zEp μ' μ → vM μ' co cn = f_out (vM μ co cn) e → K none μ') : zCall g d 209 [.inr (.inr ((0, 12), 119)), .inl e] μ K := by
  have w1 := v_env hW
  have w2 := v_en hW he
  have e2 : vM μ co cn 2 e = μ 130 e := y_in he
  refine sX12_takeOut ⟨by omega, fun q => ⟨by omega, fun q2 => ?_, fun q2 => ?_⟩, fun q => h μ (fun _ _ => rfl) (by unfold f_out; rw [e2, if_pos q])⟩
  · have e0 : vM μ co cn 0 (μ 130 e) = μ 123 (μ 130 e) := y_in (by omega)
    have e1 : vM μ co cn 1 (μ 130 e) = μ 124 (μ 130 e) := y_in (by omega)
    have ee := (hW.2.2.2 e (by omega)).2.2.1 (by rw [e2]; exact q)
    rw [e2, e0, e1] at ee
    refine h _ (fun j hj => by rw [zU_off j (by omega), zU_off j (by omega)]) ?_
    rw [mU3 (by rw [zU_off 119 (by omega)]; exact he), mU1 (by omega)]
    unfold f_out
    rw [e2, if_neg q, e0, if_pos (by omega)]
  · have e0 : vM μ co cn 0 (μ 130 e) = μ 123 (μ 130 e) := y_in (by omega)
    have e1 : vM μ co cn 1 (μ 130 e) = μ 124 (μ 130 e) := y_in (by omega)
    have es := (hW.2.2.1 (μ 130 e) (by omega)).2.2.2 (by rw [e1]; omega)
    rw [e0, e1] at es
    refine h _ (fun j hj => by rw [zU_off j (by omega), zU_off j (by omega)]) ?_
    rw [mU3 (by rw [zU_off 119 (by omega)]; exact he), mU2 (by omega)]
    unfold f_out
    rw [e2, if_neg q, e0, if_neg (by omega)]
theorem m_putIn (hn : 0 ≤ μ 119 0 ∧ μ 119 0 ≤ 23) (he : 0 ≤ e ∧ e < μ 119 6 ∧ μ 119 6 ≤ 12) (hp : 0 ≤ p ∧ p ≤ μ 119 0) (h : ∀ μ', zEp μ' μ → vM μ' co cn = f_in (vM μ co cn) e p → K none μ') : zCall g d 210 [.inr (.inr ((0, 12), 119)), .inl e, .inl p] μ K := by
  have e13 : vM μ co cn 13 0 = μ 119 0 := by simp [vM]
  refine sX12_putIn ⟨fun q => ⟨by omega, fun q2 => ⟨by omega, ?_⟩, fun q2 => ⟨by omega, ?_⟩⟩, fun q => h μ (fun _ _ => rfl) (by unfold f_in; rw [e13, if_pos q])⟩
  · have e0 : vM μ co cn 0 p = μ 123 p := y_in (by omega)
    refine h _ (fun j hj => by rw [zU_off j (by omega), zU_off j (by omega)]) ?_
    rw [mU3 (by rw [zU_off 119 (by omega)]; exact ⟨he.1, he.2.1⟩), mU2 (by omega)]
    unfold f_in
    rw [e13, if_neg q, e0, if_neg q2]
  · have e0 : vM μ co cn 0 p = μ 123 p := y_in (by omega)
    refine h _ (fun j hj => by rw [zU_off j (by omega), zU_off j (by omega)]) ?_
    rw [mU3 (by rw [zU_off 119 (by omega)]; exact ⟨he.1, he.2.1⟩), mU1 (by omega)]
    unfold f_in
    rw [e13, if_neg q, e0, if_pos q2]
/-- what moves change -/
def zEv (μ' μ : zM) : Prop := (∀ j, ¬ (j = 119 ∨ j = 123 ∨ j = 124 ∨ j = 130 ∨ j = 141) → μ' j = μ j) ∧ ∀ i, ¬ (i = 14 ∨ i = 15 ∨ i = 42) → μ' 119 i = μ 119 i
theorem m_bring (hd : 1 ≤ d) (hW : y_W (vM μ co cn)) (he : 0 ≤ e ∧ e < μ 119 6) (ha : f_ahead (vM μ co cn) e = -1) (hp : 0 ≤ p ∧ p ≤ μ 119 0) (ht : 0 ≤ t ∧ t ≤ 1000) (hh : 0 ≤ μ 119 42 ∧ μ 119 42 ≤ 252) (h : ∀ μ', zEv μ' μ → μ' 119 42 = μ 119 42 + 4 → (∀ i, ¬ (μ 119 42 ≤ i ∧ i < μ 119 42 + 4) → μ' 141 i = μ 141 i) → μ' 141 (μ 119 42) = e ∧ μ' 141 (μ 119 42 + 1) = f_point (vM μ co cn) e ∧ μ' 141 (μ 119 42 + 2) = vM μ co cn 5 0 ∧ μ' 141 (μ 119 42 + 3) = t → vM μ' co cn = f_bring (vM μ co cn) e p t → K none μ') : zCall g d 212 [.inr (.inr ((0, 12), 119)), .inl e, .inl p, .inl t] μ K := by
  have w1 := v_env hW
  have w3 := v_tn hW
  have he' : 0 ≤ e ∧ e < 12 := by omega
  have e50 : vM μ co cn 5 0 = μ 119 14 := by simp [vM, y_cl]
  have e51 : vM μ co cn 5 1 = μ 119 15 := by simp [vM, y_cl]
  have e133 : vM μ co cn 13 3 = μ 119 6 := by simp only [vM]; rfl
  have ev1 : vM (zU μ 141 (μ 119 42) e) co cn = vM μ co cn := mUo (by omega)
  refine sX12_bring ⟨by omega, by omega, m_pointOf (co := co) (cn := cn) (by rw [zU_off 119 (by omega)]; omega) (zi ?_)⟩
  rw [ev1, zU_ne (by omega), zU_ne (by omega), zwi (x := μ 119 42 + 1) (by omega) (by omega), zwi (x := μ 119 42 + 2) (by omega) (by omega), zwi (x := μ 119 42 + 3) (by omega) (by omega), zwi (x := μ 119 42 + 4) (by omega) (by omega)]
  refine ⟨by omega, by omega, by omega, ?_⟩
  generalize hM : zU (zU (zU (zU (zU μ 141 (μ 119 42) e) 141 (μ 119 42 + 1) (f_point (vM μ co cn) e)) 141 (μ 119 42 + 2) (μ 119 14)) 141 (μ 119 42 + 3) t) 119 42 (μ 119 42 + 4) = M
  have evM : vM M co cn = vM μ co cn := by rw [← hM, mUs (by omega), mUo (by omega), mUo (by omega), mUo (by omega), mUo (by omega)]
  have oM : ∀ j, ¬ j = 119 → ¬ j = 141 → M j = μ j := fun j h1 h2 => by rw [← hM, zU_off j h1, zU_off j h2, zU_off j h2, zU_off j h2, zU_off j h2]
  have sM : ∀ i, ¬ i = 42 → M 119 i = μ 119 i := fun i hi => by rw [← hM, zU_ne (by omega), zU_ne (by omega), zU_ne (by omega), zU_ne (by omega), zU_ne (by omega)]
  have hM42 : M 119 42 = μ 119 42 + 4 := by rw [← hM, zU_eq]
  have p0 : M 141 (μ 119 42) = e := by rw [← hM, zU_ne (by omega), zU_ne (by omega), zU_ne (by omega), zU_ne (by omega), zU_eq]
  have p1 : M 141 (μ 119 42 + 1) = f_point (vM μ co cn) e := by rw [← hM, zU_ne (by omega), zU_ne (by omega), zU_ne (by omega), zU_eq]
  have p2 : M 141 (μ 119 42 + 2) = μ 119 14 := by rw [← hM, zU_ne (by omega), zU_ne (by omega), zU_eq]
  have p3 : M 141 (μ 119 42 + 3) = t := by rw [← hM, zU_ne (by omega), zU_eq]
  have pO : ∀ i, ¬ (μ 119 42 ≤ i ∧ i < μ 119 42 + 4) → M 141 i = μ 141 i := fun i hi => by rw [← hM, zU_ne (by omega), zU_ne (by omega), zU_ne (by omega), zU_ne (by omega), zU_ne (by omega)]
  refine m_takeOut (co := co) (cn := cn) (by rw [evM]; exact hW) (by rw [sM 6 (by omega)]; exact he) (fun N hN hv => zn ?_)
  have N0 : N 119 = M 119 := hN 119 (by omega)
  refine m_putIn (co := co) (cn := cn) (by rw [N0, sM 0 (by omega)]; omega) (by rw [N0, sM 6 (by omega)]; omega) (by rw [N0, sM 0 (by omega)]; exact hp) (fun N2 hN2 hv2 => zn ?_)
  have N2_119 : N2 119 = M 119 := by rw [hN2 119 (by omega), N0]
  have N2_141 : N2 141 = M 141 := by rw [hN2 141 (by omega), hN 141 (by omega)]
  rw [N2_119, sM 15 (by omega), zwi (x := μ 119 15 + t) (by omega) (by omega)]
  refine h _ ⟨fun j hj => by rw [zU_off j (by omega), zU_off j (by omega), hN2 j (by omega), hN j (by omega), oM j (by omega) (by omega)], fun i hi => by rw [zU_ne (by omega), zU_ne (by omega), N2_119, sM i (by omega)]⟩ ?_ ?_ ?_ ?_
  · rw [zU_ne (by omega), zU_ne (by omega), N2_119, hM42]
  · intro i hi
    rw [zU_off _ (by omega), zU_off _ (by omega), N2_141, pO i hi]
  · rw [zU_off _ (by omega), zU_off _ (by omega), N2_141, e50]
    exact ⟨p0, p1, p2, p3⟩
  · have a1 : vM (zU (zU N2 119 14 p) 119 15 (μ 119 15 + t)) co cn = zU (zU (vM N2 co cn) 5 0 p) 5 1 (μ 119 15 + t) := by
      have := mU5 (μ := zU N2 119 14 p) (co := co) (cn := cn) (i := 1) (v := μ 119 15 + t) (Or.inr rfl)
      rw [show (1 : Int) + 14 = 15 from rfl] at this
      rw [this]
      have := mU5 (μ := N2) (co := co) (cn := cn) (i := 0) (v := p) (Or.inl rfl)
      rw [show (0 : Int) + 14 = 14 from rfl] at this
      rw [this]
    rw [a1, hv2, hv, evM]
    unfold f_bring f_put
    rw [e51]
/-- moves made, the latest first, as the pile has them -/
def h_ok (P : Int → Int) : Int → List (zM × Int × Int × Int) → zM → zM → Prop
  | _, [], Z, B => Z = B
  | h, (Y, e, p, t) :: l, Z, B => (Z = f_bring Y e p t ∧ y_W Y ∧ (0 ≤ e ∧ e < Y 13 3) ∧ f_ahead Y e = -1 ∧ (p = Y 13 0 ∨ (0 ≤ p ∧ p < Y 13 0 ∧ Y 1 p = -1)) ∧ ¬ p = f_point Y e ∧ (0 ≤ t ∧ t ≤ 1000)) ∧ (P (h - 4) = e ∧ P (h - 3) = f_point Y e ∧ P (h - 2) = Y 5 0 ∧ P (h - 1) = t) ∧ h_ok P (h - 4) l Y B
theorem h_ok_mono {P P' : Int → Int} : ∀ (l : List (zM × Int × Int × Int)) (h : Int) (Z B : zM), (∀ i, i < h → P' i = P i) → h_ok P h l Z B → h_ok P' h l Z B
  | [], h, Z, B, _, hk => hk
  | (Y, e, p, t) :: l, h, Z, B, hP, hk => by
    simp only [h_ok] at hk ⊢
    rw [hP _ (by omega), hP _ (by omega), hP _ (by omega), hP _ (by omega)]
    exact ⟨hk.1, hk.2.1, h_ok_mono l (h - 4) Y B (fun i hi => hP i (by omega)) hk.2.2⟩
theorem m_undo (hd : 1 ≤ d) : ∀ (l : List (zM × Int × Int × Int)) (B : zM) (μ : zM), y_W (vM μ co cn) → (0 ≤ x ∧ μ 119 42 = x + 4 * l.length ∧ μ 119 42 ≤ 256) → h_ok (μ 141) (μ 119 42) l (vM μ co cn) B → (∀ μ', zEv μ' μ → μ' 119 42 = x → μ' 141 = μ 141 → vM μ' co cn = B → K none μ') → zT g d mX12_undo K 0 [some (.inr (.inr ((0, 12), 119))), some (.inl x)] [] μ
  | [], B, μ, hW, hx, hk, h => by
    simp only [List.length_nil] at hx
    refine sX12_undo_0 ⟨fun q => h μ ⟨fun _ _ => rfl, fun _ _ => rfl⟩ (by omega) rfl hk, fun q => by omega⟩
  | (Y, e, p, t) :: l, B, μ, hW, hx, hk, h => by
    simp only [List.length_cons] at hx
    simp only [h_ok] at hk
    obtain ⟨⟨hZ, hY, he, ha, hp, hne, ht⟩, ⟨k0, k1, k2, k3⟩, hk⟩ := hk
    have wY := hY.1
    have he' : 0 ≤ e ∧ e < 12 := by omega
    have w3 := v_tn hW
    have w1 := v_env hW
    have e13 : vM μ co cn 13 0 = μ 119 0 := by simp [vM]
    have y13 : Y 13 0 = μ 119 0 := by rw [← e13, hZ, f_bring_13]
    have y133 : Y 13 3 = μ 119 6 := by
      have e133 : vM μ co cn 13 3 = μ 119 6 := by simp only [vM]; rfl
      rw [← e133, hZ, f_bring_13]
    have fpb := f_point_b hY he'
    have e51 : μ 119 15 = Y 5 1 + t := by
      have : vM μ co cn 5 1 = μ 119 15 := by simp [vM, y_cl]
      rw [← this, hZ, f_bring_51]
    have z4 : zw (μ 119 42 - 4) = μ 119 42 - 4 := zwi (by omega) (by omega)
    refine sX12_undo_0 ⟨fun q => by omega, fun q => ?_⟩
    rw [z4]
    refine ⟨by omega, by omega, ?_⟩
    rw [k0]
    have ev0 : vM (zU μ 119 42 (μ 119 42 - 4)) co cn = vM μ co cn := mUs (by omega)
    refine m_takeOut (co := co) (cn := cn) (by rw [ev0]; exact hW) (by rw [zU_ne (by omega)]; omega) (fun N hN hv => zn ?_)
    have n42 : N 119 42 = μ 119 42 - 4 := by rw [hN 119 (by omega), zU_eq]
    have nO : ∀ i, ¬ i = 42 → N 119 i = μ 119 i := fun i hi => by rw [hN 119 (by omega), zU_ne (by omega)]
    have n141 : N 141 = μ 141 := by rw [hN 141 (by omega), zU_off _ (by omega)]
    rw [n42, n141, zwi (x := μ 119 42 - 4 + 1) (by omega) (by omega), k0, show μ 119 42 - 4 + 1 = μ 119 42 - 3 from by omega, k1]
    refine ⟨by omega, by omega, ?_⟩
    refine m_putIn (co := co) (cn := cn) (by rw [nO 0 (by omega)]; omega) (by rw [nO 6 (by omega)]; omega) (by rw [nO 0 (by omega)]; omega) (fun N2 hN2 hv2 => zn ?_)
    have n2 : N2 119 = N 119 := hN2 119 (by omega)
    have n2141 : N2 141 = μ 141 := by rw [hN2 141 (by omega), n141]
    rw [n2, n42, n2141, nO 15 (by omega), zwi (x := μ 119 42 - 4 + 2) (by omega) (by omega), zwi (x := μ 119 42 - 4 + 3) (by omega) (by omega), show μ 119 42 - 4 + 2 = μ 119 42 - 2 from by omega, show μ 119 42 - 4 + 3 = μ 119 42 - 1 from by omega, k2, k3, zwi (x := μ 119 15 - t) (by omega) (by omega)]
    refine ⟨by omega, by omega, ?_⟩
    generalize hM : zU (zU N2 119 14 (Y 5 0)) 119 15 (μ 119 15 - t) = M
    have hvM : vM M co cn = Y := by
      have a1 : vM M co cn = zU (zU (vM N2 co cn) 5 0 (Y 5 0)) 5 1 (μ 119 15 - t) := by
        rw [← hM]
        have := mU5 (μ := zU N2 119 14 (Y 5 0)) (co := co) (cn := cn) (i := 1) (v := μ 119 15 - t) (Or.inr rfl)
        rw [show (1 : Int) + 14 = 15 from rfl] at this
        rw [this]
        have := mU5 (μ := N2) (co := co) (cn := cn) (i := 0) (v := Y 5 0) (Or.inl rfl)
        rw [show (0 : Int) + 14 = 14 from rfl] at this
        rw [this]
      rw [a1, hv2, hv, ev0, hZ, show μ 119 15 - t = Y 5 1 from by omega]
      exact f_undo hY he ha hp hne
    have m42 : M 119 42 = μ 119 42 - 4 := by rw [← hM, zU_ne (by omega), zU_ne (by omega), n2, n42]
    have m141 : M 141 = μ 141 := by rw [← hM, zU_off _ (by omega), zU_off _ (by omega), n2141]
    refine m_undo hd l B M (by rw [hvM]; exact hY) (by rw [m42]; omega) (by rw [m141, m42, hvM]; exact hk) (fun μ' hE h42 h141 hB => h μ' ⟨fun j hj => ?_, fun i hi => ?_⟩ h42 (by rw [h141, m141]) hB)
    · rw [hE.1 j hj, ← hM, zU_off j (by omega), zU_off j (by omega), hN2 j (by omega), hN j (by omega), zU_off j (by omega)]
    · rw [hE.2 i hi, ← hM, zU_ne (by omega), zU_ne (by omega), n2, nO i (by omega)]
end
