-- needs 30
/-! the reference's small methods -/
section ML
variable {g : zG} {d : Nat} {K : Option zV → zM → Prop} {μ : zM} {co : Int → Int} {cn e a b x lo hi : Int}
theorem v_env (h : y_W (vM μ co cn)) : 4 ≤ μ 119 0 ∧ μ 119 0 ≤ 23 ∧ 1 ≤ μ 119 16 ∧ μ 119 16 ≤ 9 ∧ 0 ≤ μ 119 17 ∧ μ 119 17 ≤ 9 ∧ 0 ≤ μ 119 6 ∧ μ 119 6 ≤ 12 := by
  simpa [vM, y_cl] using h.1
theorem v_tn (h : y_W (vM μ co cn)) : 0 ≤ μ 119 14 ∧ μ 119 14 ≤ μ 119 0 ∧ 0 ≤ μ 119 15 ∧ μ 119 15 ≤ 400000 := by
  simpa [vM, y_cl] using h.2.1
theorem v_st (h : y_W (vM μ co cn)) (hx : 0 ≤ x ∧ x < 23) : (10 ≤ μ 120 x ∧ μ 120 x ≤ 60 ∧ 0 ≤ μ 121 x ∧ μ 121 x ≤ 3 ∧ (μ 122 x = 0 ∨ μ 122 x = 1)) ∧ (-1 ≤ μ 123 x ∧ μ 123 x < μ 119 6 ∧ -1 ≤ μ 124 x ∧ μ 124 x < μ 119 6) := by
  have h1 := h.2.2.1 x hx
  have e2 : vM μ co cn 6 x = μ 120 x := y_in hx
  have e3 : vM μ co cn 7 x = μ 121 x := y_in hx
  have e4 : vM μ co cn 8 x = μ 122 x := y_in hx
  have e5 : vM μ co cn 0 x = μ 123 x := y_in hx
  have e6 : vM μ co cn 1 x = μ 124 x := y_in hx
  have e7 : vM μ co cn 13 3 = μ 119 6 := rfl
  rw [e2, e3, e4, e5, e6, e7] at h1
  exact ⟨h1.1, h1.2.1⟩
theorem v_e1 (h : y_W (vM μ co cn)) (he : 0 ≤ e ∧ e < 12) : 0 ≤ μ 125 e ∧ μ 125 e ≤ 30 ∧ 0 ≤ μ 126 e ∧ μ 126 e ≤ 5 ∧ 0 ≤ μ 127 e ∧ μ 127 e ≤ 600 ∧ (μ 128 e = 0 ∨ μ 128 e = 1) ∧ (μ 129 e = 0 ∨ μ 129 e = 1) := by
  have h1 := h.2.2.2 e he
  have e2 : vM μ co cn 9 e = μ 125 e := y_in he
  have e3 : vM μ co cn 10 e = μ 126 e := y_in he
  have e4 : vM μ co cn 11 e = μ 127 e := y_in he
  have e5 : vM μ co cn 12 e = μ 128 e := y_in he
  have e51 : vM μ co cn 4 e = μ 129 e := y_in he
  rw [e2, e3, e4, e5, e51] at h1
  exact h1.1
theorem v_en (h : y_W (vM μ co cn)) (he : 0 ≤ e ∧ e < μ 119 6) : (0 ≤ μ 125 e ∧ μ 125 e ≤ 30 ∧ 0 ≤ μ 126 e ∧ μ 126 e ≤ 5 ∧ 0 ≤ μ 127 e ∧ μ 127 e ≤ 600 ∧ (μ 128 e = 0 ∨ μ 128 e = 1) ∧ (μ 129 e = 0 ∨ μ 129 e = 1)) ∧ (-1 ≤ μ 130 e ∧ μ 130 e < μ 119 0 ∧ -1 ≤ μ 131 e ∧ μ 131 e ≤ μ 119 15) := by
  have he' : 0 ≤ e ∧ e < 12 := by have := v_env h; omega
  have h1 := h.2.2.2 e he'
  have e2 : vM μ co cn 9 e = μ 125 e := y_in he'
  have e3 : vM μ co cn 10 e = μ 126 e := y_in he'
  have e4 : vM μ co cn 11 e = μ 127 e := y_in he'
  have e5 : vM μ co cn 12 e = μ 128 e := y_in he'
  have e51 : vM μ co cn 4 e = μ 129 e := y_in he'
  have e6 : vM μ co cn 2 e = μ 130 e := y_in he
  have e7 : vM μ co cn 3 e = μ 131 e := y_in he
  have e8 : vM μ co cn 13 0 = μ 119 0 := by simp [vM]
  have e9 : vM μ co cn 5 1 = μ 119 15 := by simp [vM, y_cl]
  rw [e2, e3, e4, e5, e51, e6, e7, e8, e9] at h1
  exact ⟨h1.1, h1.2.1⟩
theorem m_in (h1 : lo ≤ x ∧ x ≤ hi → K (some (.inl 1)) μ) (h0 : ¬ (lo ≤ x ∧ x ≤ hi) → K (some (.inl 0)) μ) : zCall g d 161 [.inl x, .inl lo, .inl hi] μ K := by
  refine zcX12_in [] 60 rfl (fun _ _ => ?_)
  repeat' first
    | refine And.intro (fun _ => ?_) (fun _ => ?_)
    | refine And.intro ?_ ?_
  all_goals first | omega | exact h1 (by omega) | exact h0 (by omega)
theorem m_isStall (hd : 1 ≤ d) (hn : 0 ≤ μ 119 0 ∧ μ 119 0 ≤ 23) (h1 : 0 ≤ x ∧ x < μ 119 0 → K (some (.inl 1)) μ) (h0 : ¬ (0 ≤ x ∧ x < μ 119 0) → K (some (.inl 0)) μ) : zCall g d 165 [.inr (.inr ((0, 12), 119)), .inl x] μ K := by
  refine zcX12_isStall [] 60 rfl (fun _ _ => ?_)
  have e : zw (μ 119 0 - 1) = μ 119 0 - 1 := zw_id (by unfold zI32; omega)
  refine And.intro (by omega) (m_in (fun q => ?_) (fun q => ?_)) <;> rw [e] at q
  · exact And.intro (Or.inr rfl) (h1 (by omega))
  · exact And.intro (Or.inl rfl) (h0 (by omega))
theorem m_isPoint (hd : 1 ≤ d) (h1 : 0 ≤ x ∧ x ≤ μ 119 0 → K (some (.inl 1)) μ) (h0 : ¬ (0 ≤ x ∧ x ≤ μ 119 0) → K (some (.inl 0)) μ) : zCall g d 166 [.inr (.inr ((0, 12), 119)), .inl x] μ K := by
  refine zcX12_isPoint [] 60 rfl (fun _ _ => ?_)
  refine And.intro (by omega) (m_in (fun q => ?_) (fun q => ?_))
  · exact And.intro (Or.inr rfl) (h1 (by omega))
  · exact And.intro (Or.inl rfl) (h0 (by omega))
theorem m_isEngine (hd : 1 ≤ d) (hn : 0 ≤ μ 119 6 ∧ μ 119 6 ≤ 12) (h1 : 0 ≤ x ∧ x < μ 119 6 → K (some (.inl 1)) μ) (h0 : ¬ (0 ≤ x ∧ x < μ 119 6) → K (some (.inl 0)) μ) : zCall g d 167 [.inr (.inr ((0, 12), 119)), .inl x] μ K := by
  refine zcX12_isEngine [] 60 rfl (fun _ _ => ?_)
  have e : zw (μ 119 6 - 1) = μ 119 6 - 1 := zw_id (by unfold zI32; omega)
  refine And.intro (by omega) (m_in (fun q => ?_) (fun q => ?_)) <;> rw [e] at q
  · exact And.intro (Or.inr rfl) (h1 (by omega))
  · exact And.intro (Or.inl rfl) (h0 (by omega))
theorem m_isTrain (hd : 1 ≤ d) (hn : 0 ≤ μ 119 18 ∧ μ 119 18 ≤ 8) (h1 : 0 ≤ x ∧ x < μ 119 18 → K (some (.inl 1)) μ) (h0 : ¬ (0 ≤ x ∧ x < μ 119 18) → K (some (.inl 0)) μ) : zCall g d 168 [.inr (.inr ((0, 12), 119)), .inl x] μ K := by
  refine zcX12_isTrain [] 60 rfl (fun _ _ => ?_)
  have e : zw (μ 119 18 - 1) = μ 119 18 - 1 := zw_id (by unfold zI32; omega)
  refine And.intro (by omega) (m_in (fun q => ?_) (fun q => ?_)) <;> rw [e] at q
  · exact And.intro (Or.inr rfl) (h1 (by omega))
  · exact And.intro (Or.inl rfl) (h0 (by omega))
theorem m_steps (hd : 1 ≤ d) (hn : 0 ≤ μ 119 0 ∧ μ 119 0 ≤ 23) (ha : 0 ≤ a ∧ a ≤ 23) (hb : 0 ≤ b ∧ b ≤ 23) (h : K (some (.inl (f_steps (μ 119 0) a b))) μ) : zCall g d 176 [.inr (.inr ((0, 12), 119)), .inl a, .inl b] μ K := by
  refine zcX12_stepsOf [] 60 rfl (fun _ _ => ?_)
  repeat' first
    | refine And.intro (fun _ => ?_) (fun _ => ?_)
    | refine And.intro ?_ ?_
  all_goals first | omega | (refine k_int h ?_; unfold f_steps zabs zw at *; omega)
theorem m_pointOf (he : 0 ≤ e ∧ e < μ 119 6 ∧ μ 119 6 ≤ 12) (h : K (some (.inl (f_point (vM μ co cn) e))) μ) : zCall g d 198 [.inr (.inr ((0, 12), 119)), .inl e] μ K := by
  refine zcX12_pointOf [] 60 rfl (fun _ _ => ?_)
  have e6 : vM μ co cn 2 e = μ 130 e := y_in ⟨he.1, he.2.1⟩
  have e8 : vM μ co cn 13 0 = μ 119 0 := by simp [vM]
  simp only [f_point, e6, e8] at h
  repeat' first
    | refine And.intro (fun _ => ?_) (fun _ => ?_)
    | refine And.intro ?_ ?_
  all_goals first | omega | (refine k_int h ?_; simp_all)
theorem m_atBack (he : 0 ≤ e ∧ e < 12) (hp : -1 ≤ μ 130 e ∧ μ 130 e < 23) (h1 : ¬ μ 130 e = -1 ∧ μ 123 (μ 130 e) = e → K (some (.inl 1)) μ) (h0 : ¬ (¬ μ 130 e = -1 ∧ μ 123 (μ 130 e) = e) → K (some (.inl 0)) μ) : zCall g d 199 [.inr (.inr ((0, 12), 119)), .inl e] μ K := by
  refine zcX12_isAtBack [] 60 rfl (fun _ _ => ?_)
  repeat' first
    | refine And.intro (fun _ => ?_) (fun _ => ?_)
    | refine And.intro ?_ ?_
  all_goals first | omega | exact h1 (by omega) | exact h0 (by omega)
theorem m_ahead (hd : 1 ≤ d) (he : 0 ≤ e ∧ e < μ 119 6 ∧ μ 119 6 ≤ 12) (hp : -1 ≤ μ 130 e ∧ μ 130 e < 23) (h : K (some (.inl (f_ahead (vM μ co cn) e))) μ) : zCall g d 200 [.inr (.inr ((0, 12), 119)), .inl e] μ K := by
  refine zcX12_ahead [] 60 rfl (fun _ _ => ?_)
  have e1 : vM μ co cn 2 e = μ 130 e := y_in ⟨he.1, he.2.1⟩
  refine And.intro (by omega) (m_atBack (by omega) hp (fun q => ?_) (fun q => ?_))
  · have e2 : vM μ co cn 0 (μ 130 e) = μ 123 (μ 130 e) := y_in (by omega)
    have e3 : vM μ co cn 1 (μ 130 e) = μ 124 (μ 130 e) := y_in (by omega)
    have e4 : f_ahead (vM μ co cn) e = μ 124 (μ 130 e) := by
      simp only [f_ahead, f_atb, e1, e2, e3, decide_eq_true_eq]
      rw [if_pos q]
    rw [e4] at h
    repeat' first
      | refine And.intro (fun _ => ?_) (fun _ => ?_)
      | refine And.intro ?_ ?_
    all_goals first | omega | exact h
  · have e4 : f_ahead (vM μ co cn) e = -1 := by
      simp only [f_ahead, f_atb, e1, decide_eq_true_eq]
      rw [if_neg]
      intro q2
      refine q ⟨q2.1, ?_⟩
      have e2 : vM μ co cn 0 (μ 130 e) = μ 123 (μ 130 e) := y_in (by omega)
      rw [← e2]
      exact q2.2
    rw [e4] at h
    repeat' first
      | refine And.intro (fun _ => ?_) (fun _ => ?_)
      | refine And.intro ?_ ?_
    all_goals first | omega | exact h
theorem m_lengthIn (hW : y_W (vM μ co cn)) (hx : 0 ≤ x ∧ x < 23) (h : K (some (.inl (f_len (vM μ co cn) x))) μ) : zCall g d 171 [.inr (.inr ((0, 12), 119)), .inl x] μ K := by
  refine zcX12_lengthIn [] 60 rfl (fun _ _ => ?_)
  have w1 := v_env hW
  have w2 := (v_st hW hx).2
  have e5 : vM μ co cn 0 x = μ 123 x := y_in hx
  have e6 : vM μ co cn 1 x = μ 124 x := y_in hx
  simp only [f_len, e5, e6] at h
  have s1 : ∀ e, 0 ≤ e ∧ e < 12 → 0 ≤ μ 125 e ∧ μ 125 e ≤ 30 := fun e he => by have := v_e1 hW he; omega
  have v1 : ∀ e, 0 ≤ e ∧ e < 12 → vM μ co cn 9 e = μ 125 e := fun e he => y_in he
  have q1 := fun q : ¬ μ 123 x = -1 => s1 (μ 123 x) (by omega)
  have q2 := fun q : ¬ μ 124 x = -1 => s1 (μ 124 x) (by omega)
  have r1 := fun q : ¬ μ 123 x = -1 => v1 (μ 123 x) (by omega)
  have r2 := fun q : ¬ μ 124 x = -1 => v1 (μ 124 x) (by omega)
  repeat' first
    | refine And.intro (fun _ => ?_) (fun _ => ?_)
    | refine And.intro ?_ ?_
  all_goals try omega
  all_goals
    refine k_int h ?_
    simp_all
    try (unfold zw; omega)
theorem m_steaming (hW : y_W (vM μ co cn)) (he : 0 ≤ e ∧ e < μ 119 6) (h1 : f_steam (vM μ co cn) e (μ 119 15) = true → K (some (.inl 1)) μ) (h0 : f_steam (vM μ co cn) e (μ 119 15) = false → K (some (.inl 0)) μ) : zCall g d 193 [.inr (.inr ((0, 12), 119)), .inl e] μ K := by
  refine zcX12_isSteaming [] 60 rfl (fun _ _ => ?_)
  have w1 := v_en hW he
  have w2 := v_tn hW
  have w6 := v_env hW
  have e7 : vM μ co cn 3 e = μ 131 e := y_in he
  have e4 : vM μ co cn 11 e = μ 127 e := y_in (by omega)
  simp only [f_steam, e7, e4, decide_eq_true_eq, decide_eq_false_iff_not] at h1 h0
  repeat' first
    | refine And.intro (fun _ => ?_) (fun _ => ?_)
    | refine And.intro ?_ ?_
  all_goals first | omega | (unfold zw at *; first | exact h1 (by omega) | exact h0 (by omega))
theorem m_mayGo (hd : 1 ≤ d) (hW : y_W (vM μ co cn)) (he : 0 ≤ e ∧ e < μ 119 6) (h1 : f_may (vM μ co cn) e (μ 119 15) = true → K (some (.inl 1)) μ) (h0 : f_may (vM μ co cn) e (μ 119 15) = false → K (some (.inl 0)) μ) : zCall g d 194 [.inr (.inr ((0, 12), 119)), .inl e] μ K := by
  refine zcX12_mayGo [] 60 rfl (fun _ _ => ?_)
  have w6 := v_env hW
  have e7 : vM μ co cn 4 e = μ 129 e := y_in (by omega)
  simp only [f_may, e7] at h1 h0
  refine And.intro (by omega) (m_steaming hW he (fun q => ?_) (fun q => ?_))
  · rw [q] at h1 h0
    repeat' first
      | refine And.intro (fun _ => ?_) (fun _ => ?_)
      | refine And.intro ?_ ?_
    all_goals first | omega | exact h1 (by simp; omega) | exact h0 (by simp; omega)
  · rw [q] at h0
    repeat' first
      | refine And.intro (fun _ => ?_) (fun _ => ?_)
      | refine And.intro ?_ ?_
    all_goals first | omega | exact h0 (by simp)
theorem m_cost (hd : 2 ≤ d) (hW : y_W (vM μ co cn)) (he : 0 ≤ e ∧ e < μ 119 6) (hb : 0 ≤ b ∧ b ≤ μ 119 0) (h : K (some (.inl (f_min (vM μ co cn) (f_point (vM μ co cn) e) b))) μ) : zCall g d 208 [.inr (.inr ((0, 12), 119)), .inl e, .inl b] μ K := by
  refine zcX12_cost [] 60 rfl (fun _ _ => ?_)
  have w1 := v_env hW
  have w2 := v_tn hW
  have w3 := v_en hW he
  have e8 : vM μ co cn 13 0 = μ 119 0 := by simp [vM]
  have e9 : vM μ co cn 13 1 = μ 119 16 := by simp [vM]
  have e10 : vM μ co cn 13 2 = μ 119 17 := by simp [vM]
  have e11 : vM μ co cn 5 0 = μ 119 14 := by simp [vM, y_cl]
  have e12 : 0 ≤ f_point (vM μ co cn) e ∧ f_point (vM μ co cn) e ≤ μ 119 0 := by
    have e6 : vM μ co cn 2 e = μ 130 e := y_in he
    simp only [f_point, e6, e8]
    split <;> omega
  simp only [f_min, e8, e9, e10, e11] at h
  refine And.intro (by omega) (m_pointOf (co := co) (cn := cn) (by omega) ?_)
  refine And.intro (by omega) (m_steps (by omega) (by omega) (by omega) (by omega) ?_)
  refine And.intro (by omega) (m_pointOf (co := co) (cn := cn) (by omega) ?_)
  refine And.intro (by omega) (m_steps (by omega) (by omega) (by omega) (by omega) ?_)
  generalize f_point (vM μ co cn) e = z at *
  refine k_int h ?_
  have b1 : 0 ≤ f_steps (μ 119 0) (μ 119 14) z ∧ f_steps (μ 119 0) (μ 119 14) z ≤ 12 := by unfold f_steps; omega
  have b2 : 0 ≤ f_steps (μ 119 0) z b ∧ f_steps (μ 119 0) z b ≤ 12 := by unfold f_steps; omega
  generalize f_steps (μ 119 0) (μ 119 14) z = p at *
  generalize f_steps (μ 119 0) z b = q at *
  have b3 : 0 ≤ μ 119 16 * (p + q) ∧ μ 119 16 * (p + q) ≤ 9 * 24 := by
    constructor
    · exact Int.mul_nonneg (by omega) (by omega)
    · exact Int.mul_le_mul (by omega) (by omega) (by omega) (by omega)
  rw [zw_id (x := p + q) (by unfold zI32; omega), zw_id (x := μ 119 16 * (p + q)) (by unfold zI32; omega), zw_id (x := 2 * μ 119 17) (by unfold zI32; omega), zw_id (by unfold zI32; omega)]
theorem f_hoodm_t (hx : 0 ≤ x ∧ x < 23) : f_hood (vM μ co cn) x true = decide (μ 121 x / 2 % 2 = 1) := by
  have e3 : vM μ co cn 7 x = μ 121 x := y_in hx
  simp only [f_hood, e3]
theorem f_hoodm_f (hx : 0 ≤ x ∧ x < 23) : f_hood (vM μ co cn) x false = decide (μ 121 x % 2 = 1) := by
  have e3 : vM μ co cn 7 x = μ 121 x := y_in hx
  simp only [f_hood, e3]
theorem z_shr0 (x : Int) (h : 0 ≤ x ∧ x ≤ 3) : zand (zshr x 0) 1 = x % 2 := by
  have : x = 0 ∨ x = 1 ∨ x = 2 ∨ x = 3 := by omega
  rcases this with rfl | rfl | rfl | rfl <;> decide
theorem z_shr1 (x : Int) (h : 0 ≤ x ∧ x ≤ 3) : zand (zshr x 1) 1 = x / 2 % 2 := by
  have : x = 0 ∨ x = 1 ∨ x = 2 ∨ x = 3 := by omega
  rcases this with rfl | rfl | rfl | rfl <;> decide
theorem m_hooded (hd : 1 ≤ d) (hW : y_W (vM μ co cn)) (he : 0 ≤ e ∧ e < μ 119 6) (h1 : f_hooded (vM μ co cn) e = true → K (some (.inl 1)) μ) (h0 : f_hooded (vM μ co cn) e = false → K (some (.inl 0)) μ) : zCall g d 201 [.inr (.inr ((0, 12), 119)), .inl e] μ K := by
  refine zcX12_isHooded [] 60 rfl (fun _ _ => ?_)
  have w1 := v_env hW
  have w2 := v_en hW he
  have e6 : vM μ co cn 2 e = μ 130 e := y_in he
  simp only [f_hooded, e6] at h1 h0
  refine And.intro (by omega) (And.intro (fun q => ?_) (fun q => ?_))
  · exact And.intro (by omega) (h0 (by simp [q]))
  · have w3 := (v_st hW (x := μ 130 e) (by omega)).1
    have e2 : vM μ co cn 0 (μ 130 e) = μ 123 (μ 130 e) := y_in (by omega)
    have z0 := z_shr0 (μ 121 (μ 130 e)) (by omega)
    have z1 := z_shr1 (μ 121 (μ 130 e)) (by omega)
    refine And.intro (by omega) (And.intro (by omega) (And.intro (by omega) (m_atBack (by omega) (by omega) (fun q2 => ?_) (fun q2 => ?_))))
    · have e4 : f_atb (vM μ co cn) e = true := by simp [f_atb, e6, e2, q2]
      rw [e4, f_hoodm_t (by omega)] at h1 h0
      repeat' first
        | refine And.intro (fun _ => ?_) (fun _ => ?_)
        | refine And.intro ?_ ?_
      all_goals first | omega | exact h1 (by simp [q]; omega) | exact h0 (by simp [q]; omega)
    · have e4 : f_atb (vM μ co cn) e = false := by
        simp only [f_atb, e6, e2, decide_eq_false_iff_not]
        exact q2
      rw [e4, f_hoodm_f (by omega)] at h1 h0
      repeat' first
        | refine And.intro (fun _ => ?_) (fun _ => ?_)
        | refine And.intro ?_ ?_
      all_goals first | omega | exact h1 (by simp [q]; omega) | exact h0 (by simp [q]; omega)
end ML
