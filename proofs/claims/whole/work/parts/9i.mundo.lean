-- needs 9h
/-! the morning: the reference takes its moves back, its clock aside -/
theorem z_com {A : zM} {j k : Nat} {i x v y : Int} (h : ¬ (j = k ∧ i = x)) : zU (zU A j i v) k x y = zU (zU A k x y) j i v := by
  funext a b
  unfold zU
  by_cases q1 : a = k ∧ b = x
  · rw [if_pos q1, if_neg (fun hh => h ⟨hh.1.symm.trans q1.1, hh.2.symm.trans q1.2⟩), if_pos q1]
  · rw [if_neg q1]
    by_cases q2 : a = j ∧ b = i
    · rw [if_pos q2, if_pos q2]
    · rw [if_neg q2, if_neg q2, if_neg q1]
theorem f_out_n {A : zM} {w e : Int} : f_out (zU A 5 1 w) e = zU (f_out A e) 5 1 w := by
  have o : ∀ k, ¬ k = 5 → zU A 5 1 w k = A k := fun k hk => zU_off k hk
  unfold f_out
  rw [o 2 (by omega), o 0 (by omega)]
  by_cases q : A 2 e = -1
  · rw [if_pos q, if_pos q]
  · rw [if_neg q, if_neg q]
    by_cases q2 : A 0 (A 2 e) = e
    · rw [if_pos q2, if_pos q2, z_com (j := 5) (k := 0) (by omega), z_com (j := 5) (k := 2) (by omega)]
    · rw [if_neg q2, if_neg q2, z_com (j := 5) (k := 1) (by omega), z_com (j := 5) (k := 2) (by omega)]
theorem f_in_n {A : zM} {w e p : Int} : f_in (zU A 5 1 w) e p = zU (f_in A e p) 5 1 w := by
  have o : ∀ k, ¬ k = 5 → zU A 5 1 w k = A k := fun k hk => zU_off k hk
  unfold f_in
  rw [o 13 (by omega), o 0 (by omega)]
  by_cases q : p = A 13 0
  · rw [if_pos q, if_pos q]
  · rw [if_neg q, if_neg q]
    by_cases q2 : A 0 p = -1
    · rw [if_pos q2, if_pos q2, z_com (j := 5) (k := 0) (by omega), z_com (j := 5) (k := 2) (by omega)]
    · rw [if_neg q2, if_neg q2, z_com (j := 5) (k := 1) (by omega), z_com (j := 5) (k := 2) (by omega)]
/-- as h_ok, but the clock may have gone on between -/
def h_okn (P : Int → Int) : Int → List (zM × Int × Int × Int) → zM → zM → Prop
  | _, [], Z, B => ∃ v, B 5 1 ≤ v ∧ Z = zU B 5 1 v
  | h, (Y, e, p, t) :: l, Z, B => (∃ v, Y 5 1 + t ≤ v ∧ Z = zU (f_bring Y e p t) 5 1 v) ∧ (y_W Y ∧ (0 ≤ e ∧ e < Y 13 3) ∧ f_ahead Y e = -1 ∧ (p = Y 13 0 ∨ (0 ≤ p ∧ p < Y 13 0 ∧ Y 1 p = -1)) ∧ ¬ p = f_point Y e ∧ (0 ≤ t ∧ t ≤ 1000)) ∧ (P (h - 4) = e ∧ P (h - 3) = f_point Y e ∧ P (h - 2) = Y 5 0 ∧ P (h - 1) = t) ∧ h_okn P (h - 4) l Y B
theorem h_okn_up {P : Int → Int} {h v : Int} {Z B : zM} : ∀ l : List (zM × Int × Int × Int), h_okn P h l Z B → Z 5 1 ≤ v → h_okn P h l (zU Z 5 1 v) B
  | [], ⟨w, h1, h2⟩, hv => ⟨v, by rw [h2, zU_eq] at hv; omega, by rw [h2, zU_2]⟩
  | (Y, e, p, t) :: l, ⟨⟨w, h1, h2⟩, h3⟩, hv => ⟨⟨v, by rw [h2, zU_eq] at hv; omega, by rw [h2, zU_2]⟩, h3⟩
theorem h_okn_mono {P P' : Int → Int} : ∀ (l : List (zM × Int × Int × Int)) (h : Int) (Z B : zM), (∀ i, i < h → P' i = P i) → h_okn P h l Z B → h_okn P' h l Z B
  | [], h, Z, B, _, hk => hk
  | (Y, e, p, t) :: l, h, Z, B, hP, hk => by
    simp only [h_okn] at hk ⊢
    rw [hP _ (by omega), hP _ (by omega), hP _ (by omega), hP _ (by omega)]
    exact ⟨hk.1, hk.2.1, hk.2.2.1, h_okn_mono l (h - 4) Y B (fun i hi => hP i (by omega)) hk.2.2.2⟩
theorem h_okn_app {P : Int → Int} {B : zM} {l : List (zM × Int × Int × Int)} : ∀ (l1 : List (zM × Int × Int × Int)) (h : Int) (Zf Z1 : zM), h_ok P h l1 Zf Z1 → h_okn P (h - 4 * l1.length) l Z1 B → h_okn P h (l1 ++ l) Zf B
  | [], h, Zf, Z1, h1, h2 => by
    have h1 : Zf = Z1 := h1
    rw [h1]
    simpa using h2
  | (Y, e, p, t) :: l1, h, Zf, Z1, h1, h2 => by
    obtain ⟨⟨a1, a2, a3, a4, a5, a6, a7⟩, b1, c1⟩ := h1
    refine ⟨⟨Y 5 1 + t, Int.le_refl _, ?_⟩, ⟨a2, a3, a4, a5, a6, a7⟩, b1, h_okn_app l1 (h - 4) Y Z1 c1 ?_⟩
    · rw [a1, zU_same f_bring_51]
    · simp only [List.length_cons] at h2
      rw [show h - 4 - 4 * (l1.length : Int) = h - 4 * ((l1.length + 1 : Nat) : Int) from by omega]
      exact h2
section
variable {g : zG} {d : Nat} {K : Option zV → zM → Prop} {co : Int → Int} {cn x : Int}
theorem m_undo_n (hd : 1 ≤ d) : ∀ (l : List (zM × Int × Int × Int)) (B : zM) (μ Z : zM) (w : Int), y_W Z → vM μ co cn = zU Z 5 1 w → (Z 5 1 ≤ w ∧ w ≤ 400000) → (0 ≤ x ∧ μ 119 42 = x + 4 * l.length ∧ μ 119 42 ≤ 256) → h_okn (μ 141) (μ 119 42) l Z B → (∀ μ' w', zEv μ' μ → μ' 119 42 = x → vM μ' co cn = zU B 5 1 w' → K none μ') → zT g d mX12_undo K 0 [some (.inr (.inr ((0, 12), 119))), some (.inl x)] [] μ
  | [], B, μ, Z, w, hW, hv, hw, hx, hk, h => by
    simp only [List.length_nil] at hx
    obtain ⟨v, h1, h2⟩ := hk
    refine sX12_undo_0 ⟨fun q => h μ w ⟨fun _ _ => rfl, fun _ _ => rfl⟩ (by omega) (by rw [hv, h2, zU_2]), fun q => by omega⟩
  | (Y, e, p, t) :: l, B, μ, Z, w, hWZ, hv, hw, hx, hk, h => by
    simp only [List.length_cons] at hx
    obtain ⟨⟨v, hv1, hZ⟩, ⟨hY, he, ha, hp, hne, ht⟩, ⟨k0, k1, k2, k3⟩, hk⟩ := hk
    have z51 : Z 5 1 = v := by rw [hZ, zU_eq]
    have hZ' : vM μ co cn = zU (f_bring Y e p t) 5 1 w := by rw [hv, hZ, zU_2]
    have hW : y_W (vM μ co cn) := by rw [hv]; exact w_now hWZ hw
    have wY := hY.1
    have he' : 0 ≤ e ∧ e < 12 := by omega
    have w3 := v_tn hW
    have w1 := v_env hW
    have e13 : vM μ co cn 13 0 = μ 119 0 := by simp [vM]
    have y13 : Y 13 0 = μ 119 0 := by rw [← e13, hZ', zU_off 13 (by omega), f_bring_13]
    have y133 : Y 13 3 = μ 119 6 := by
      have e133 : vM μ co cn 13 3 = μ 119 6 := by simp only [vM]; rfl
      rw [← e133, hZ', zU_off 13 (by omega), f_bring_13]
    have fpb := f_point_b hY he'
    have e51 : μ 119 15 = w := by
      have : vM μ co cn 5 1 = μ 119 15 := by simp [vM, y_cl]
      rw [← this, hZ', zU_eq]
    have yb := hY.2.1
    have z4 : zw (μ 119 42 - 4) = μ 119 42 - 4 := zwi (by omega) (by omega)
    refine sX12_undo_0 ⟨fun q => by omega, fun q => ?_⟩
    rw [z4]
    refine ⟨by omega, by omega, ?_⟩
    rw [k0]
    have ev0 : vM (zU μ 119 42 (μ 119 42 - 4)) co cn = vM μ co cn := mUs (by omega)
    refine m_takeOut (co := co) (cn := cn) (by rw [ev0]; exact hW) (by rw [zU_ne (by omega)]; omega) (fun N hN hv0 => zn ?_)
    have n42 : N 119 42 = μ 119 42 - 4 := by rw [hN 119 (by omega), zU_eq]
    have nO : ∀ i, ¬ i = 42 → N 119 i = μ 119 i := fun i hi => by rw [hN 119 (by omega), zU_ne (by omega)]
    have n141 : N 141 = μ 141 := by rw [hN 141 (by omega), zU_off _ (by omega)]
    rw [n42, n141, zwi (x := μ 119 42 - 4 + 1) (by omega) (by omega), k0, show μ 119 42 - 4 + 1 = μ 119 42 - 3 from by omega, k1]
    refine ⟨by omega, by omega, ?_⟩
    refine m_putIn (co := co) (cn := cn) (by rw [nO 0 (by omega)]; omega) (by rw [nO 6 (by omega)]; omega) (by rw [nO 0 (by omega)]; omega) (fun N2 hN2 hv2 => zn ?_)
    have n2 : N2 119 = N 119 := hN2 119 (by omega)
    have n2141 : N2 141 = μ 141 := by rw [hN2 141 (by omega), n141]
    rw [n2, n42, n2141, nO 15 (by omega), zwi (x := μ 119 42 - 4 + 2) (by omega) (by omega), zwi (x := μ 119 42 - 4 + 3) (by omega) (by omega), show μ 119 42 - 4 + 2 = μ 119 42 - 2 from by omega, show μ 119 42 - 4 + 3 = μ 119 42 - 1 from by omega, k2, k3, e51, zwi (x := w - t) (by omega) (by omega)]
    refine ⟨by omega, by omega, ?_⟩
    generalize hM : zU (zU N2 119 14 (Y 5 0)) 119 15 (w - t) = M
    have hvM : vM M co cn = zU Y 5 1 (w - t) := by
      have a1 : vM M co cn = zU (zU (vM N2 co cn) 5 0 (Y 5 0)) 5 1 (w - t) := by
        rw [← hM]
        have := mU5 (μ := zU N2 119 14 (Y 5 0)) (co := co) (cn := cn) (i := 1) (v := w - t) (Or.inr rfl)
        rw [show (1 : Int) + 14 = 15 from rfl] at this
        rw [this]
        have := mU5 (μ := N2) (co := co) (cn := cn) (i := 0) (v := Y 5 0) (Or.inl rfl)
        rw [show (0 : Int) + 14 = 14 from rfl] at this
        rw [this]
      rw [a1, hv2, hv0, ev0, hZ', f_out_n, f_in_n, z_com (j := 5) (k := 5) (i := 1) (x := 0) (by omega), zU_2]
      have u := f_undo (t := t) hY he ha hp hne
      have u2 := congrArg (fun A : zM => zU A 5 1 (w - t)) u
      rw [← u2]
      exact zU_2.symm
    have m42 : M 119 42 = μ 119 42 - 4 := by rw [← hM, zU_ne (by omega), zU_ne (by omega), n2, n42]
    have m141 : M 141 = μ 141 := by rw [← hM, zU_off _ (by omega), zU_off _ (by omega), n2141]
    refine m_undo_n hd l B M Y (w - t) hY hvM (by omega) (by rw [m42]; omega) (by rw [m141, m42]; exact hk) (fun μ' w' hE h42 hB => h μ' w' ⟨fun j hj => ?_, fun i hi => ?_⟩ h42 hB)
    · rw [hE.1 j hj, ← hM, zU_off j (by omega), zU_off j (by omega), hN2 j (by omega), hN j (by omega), zU_off j (by omega)]
    · rw [hE.2 i hi, ← hM, zU_ne (by omega), zU_ne (by omega), n2, nO i (by omega)]
end
