-- needs 30 31
/-! the class's yard: what it asks -/
section CY
variable {g : zG} {d : Nat} {K : Option zV → zM → Prop} {μ : zM} {s : Nat} {e a b x : Int}
theorem w_env (h : y_W (vC μ s)) : 4 ≤ μ 1 0 ∧ μ 1 0 ≤ 23 ∧ 1 ≤ μ 1 1 ∧ μ 1 1 ≤ 9 ∧ 0 ≤ μ 1 2 ∧ μ 1 2 ≤ 9 ∧ 0 ≤ μ 5 0 ∧ μ 5 0 ≤ 12 := by
  simpa [vC, y_cl] using h.1
theorem w_tn (h : y_W (vC μ s)) : 0 ≤ μ s 0 ∧ μ s 0 ≤ μ 1 0 ∧ 0 ≤ μ s 1 ∧ μ s 1 ≤ 400000 := by
  simpa [vC, y_cl] using h.2.1
theorem w_st (h : y_W (vC μ s)) (hx : 0 ≤ x ∧ x < 23) : (10 ≤ μ 2 x ∧ μ 2 x ≤ 60 ∧ 0 ≤ μ 3 x ∧ μ 3 x ≤ 3 ∧ (μ 4 x = 0 ∨ μ 4 x = 1)) ∧ (-1 ≤ μ (s + 1) x ∧ μ (s + 1) x < μ 5 0 ∧ -1 ≤ μ (s + 2) x ∧ μ (s + 2) x < μ 5 0) := by
  have h1 := h.2.2.1 x hx
  have e2 : vC μ s 6 x = μ 2 x := y_in hx
  have e3 : vC μ s 7 x = μ 3 x := y_in hx
  have e4 : vC μ s 8 x = μ 4 x := y_in hx
  have e5 : vC μ s 0 x = μ (s + 1) x := y_in hx
  have e6 : vC μ s 1 x = μ (s + 2) x := y_in hx
  have e7 : vC μ s 13 3 = μ 5 0 := rfl
  rw [e2, e3, e4, e5, e6, e7] at h1
  exact ⟨h1.1, h1.2.1⟩
theorem w_en (h : y_W (vC μ s)) (he : 0 ≤ e ∧ e < 12) : (0 ≤ μ 6 e ∧ μ 6 e ≤ 30 ∧ 0 ≤ μ 7 e ∧ μ 7 e ≤ 5 ∧ 0 ≤ μ 8 e ∧ μ 8 e ≤ 600 ∧ (μ 9 e = 0 ∨ μ 9 e = 1)) ∧ (-1 ≤ μ (s + 3) e ∧ μ (s + 3) e < μ 1 0 ∧ -1 ≤ μ (s + 4) e ∧ μ (s + 4) e ≤ μ s 1) := by
  have h1 := h.2.2.2 e he
  have e2 : vC μ s 9 e = μ 6 e := y_in he
  have e3 : vC μ s 10 e = μ 7 e := y_in he
  have e4 : vC μ s 11 e = μ 8 e := y_in he
  have e5 : vC μ s 12 e = μ 9 e := y_in he
  have e6 : vC μ s 2 e = μ (s + 3) e := y_in he
  have e7 : vC μ s 3 e = μ (s + 4) e := y_in he
  have e8 : vC μ s 13 0 = μ 1 0 := by simp [vC, y_cl]
  have e9 : vC μ s 5 1 = μ s 1 := by simp [vC, y_cl]
  rw [e2, e3, e4, e5, e6, e7, e8, e9] at h1
  exact ⟨⟨h1.1.1, h1.1.2.1, h1.1.2.2.1, h1.1.2.2.2.1, h1.1.2.2.2.2.1, h1.1.2.2.2.2.2.1, h1.1.2.2.2.2.2.2.1⟩, h1.2.1⟩
theorem c_pointOf (hd : 1 ≤ d) (he : 0 ≤ e ∧ e < 12) (h : K (some (.inl (f_point (vC μ s) e))) μ) : zCall g d 92 [.inr (.inr ((0, 10), 25)), .inr (.inr ((0, 7), s)), .inl e] μ K := by
  refine zcX10_pointOf [] 60 rfl (fun _ _ => ?_)
  have e6 : vC μ s 2 e = μ (s + 3) e := y_in he
  have e8 : vC μ s 13 0 = μ 1 0 := by simp [vC, y_cl]
  simp only [f_point, e6, e8] at h
  refine And.intro (by omega) (c_onRoad he (fun q => ?_) (fun q => ?_))
  · rw [if_pos q] at h
    repeat' first
      | refine And.intro (fun _ => ?_) (fun _ => ?_)
      | refine And.intro ?_ ?_
    all_goals first | omega | exact h
  · rw [if_neg q] at h
    repeat' first
      | refine And.intro (fun _ => ?_) (fun _ => ?_)
      | refine And.intro ?_ ?_
    all_goals first | omega | exact h
theorem c_lengthIn (hW : y_W (vC μ s)) (hx : 0 ≤ x ∧ x < 23) (h : K (some (.inl (f_len (vC μ s) x))) μ) : zCall g d 93 [.inr (.inr ((0, 10), 25)), .inr (.inr ((0, 7), s)), .inl x] μ K := by
  refine zcX10_lengthIn [] 60 rfl (fun _ _ => ?_)
  have w1 := w_env hW
  have w2 := (w_st hW hx).2
  have e5 : vC μ s 0 x = μ (s + 1) x := y_in hx
  have e6 : vC μ s 1 x = μ (s + 2) x := y_in hx
  simp only [f_len, e5, e6] at h
  have s1 : ∀ e, 0 ≤ e ∧ e < 12 → 0 ≤ μ 6 e ∧ μ 6 e ≤ 30 := fun e he => by have := (w_en hW he).1; omega
  have v1 : ∀ e, 0 ≤ e ∧ e < 12 → vC μ s 9 e = μ 6 e := fun e he => y_in he
  have q1 := fun q : ¬ μ (s + 1) x = -1 => s1 (μ (s + 1) x) (by omega)
  have q2 := fun q : ¬ μ (s + 2) x = -1 => s1 (μ (s + 2) x) (by omega)
  have r1 := fun q : ¬ μ (s + 1) x = -1 => v1 (μ (s + 1) x) (by omega)
  have r2 := fun q : ¬ μ (s + 2) x = -1 => v1 (μ (s + 2) x) (by omega)
  repeat' first
    | refine And.intro (fun _ => ?_) (fun _ => ?_)
    | refine And.intro ?_ ?_
  all_goals try omega
  all_goals
    refine k_int h ?_
    simp_all
    try (unfold zw; omega)
theorem c_inSteamFrom (hW : y_W (vC μ s)) (he : 0 ≤ e ∧ e < 12) (h : K (some (.inl (μ (s + 4) e + μ 8 e))) μ) : zCall g d 94 [.inr (.inr ((0, 10), 25)), .inr (.inr ((0, 7), s)), .inl e] μ K := by
  refine zcX10_inSteamFrom [] 60 rfl (fun _ _ => ?_)
  have w1 := w_en hW he
  have w2 := w_tn hW
  repeat' first
    | refine And.intro (fun _ => ?_) (fun _ => ?_)
    | refine And.intro ?_ ?_
  all_goals first | omega | (refine k_int h ?_; unfold zw; omega)
theorem c_inSteam (hW : y_W (vC μ s)) (he : 0 ≤ e ∧ e < 12) (hx : 0 ≤ x ∧ x ≤ 1000000) (h1 : f_steam (vC μ s) e x = true → K (some (.inl 1)) μ) (h0 : f_steam (vC μ s) e x = false → K (some (.inl 0)) μ) : zCall g d 95 [.inr (.inr ((0, 10), 25)), .inr (.inr ((0, 7), s)), .inl e, .inl x] μ K := by
  refine zcX10_inSteam [] 60 rfl (fun _ _ => ?_)
  have w1 := w_en hW he
  have w2 := w_tn hW
  have e7 : vC μ s 3 e = μ (s + 4) e := y_in he
  have e4 : vC μ s 11 e = μ 8 e := y_in he
  simp only [f_steam, e7, e4, decide_eq_true_eq, decide_eq_false_iff_not] at h1 h0
  repeat' first
    | refine And.intro (fun _ => ?_) (fun _ => ?_)
    | refine And.intro ?_ ?_
  all_goals first | omega | (unfold zw at *; first | exact h1 (by omega) | exact h0 (by omega))
theorem c_mayGo (hd : 1 ≤ d) (hW : y_W (vC μ s)) (he : 0 ≤ e ∧ e < 12) (hx : 0 ≤ x ∧ x ≤ 1000000) (h1 : f_may (vC μ s) e x = true → K (some (.inl 1)) μ) (h0 : f_may (vC μ s) e x = false → K (some (.inl 0)) μ) : zCall g d 96 [.inr (.inr ((0, 10), 25)), .inr (.inr ((0, 7), s)), .inl e, .inl x] μ K := by
  refine zcX10_mayGo [] 60 rfl (fun _ _ => ?_)
  have e7 : vC μ s 4 e = zand (zshr (μ s 2) e) 1 := y_in (f := fun e => zand (zshr (μ s 2) e) 1) he
  simp only [f_may, e7] at h1 h0
  refine And.intro (by omega) (c_inSteam hW he hx (fun q => ?_) (fun q => ?_))
  · refine And.intro (fun _ => by omega) (fun _ => ?_)
    refine And.intro (by omega) (c_isDead (fun q2 => ?_) (fun q2 => ?_))
    · repeat' first
        | refine And.intro (fun _ => ?_) (fun _ => ?_)
        | refine And.intro ?_ ?_
      all_goals first | omega | exact h0 (by simp [q, q2])
    · repeat' first
        | refine And.intro (fun _ => ?_) (fun _ => ?_)
        | refine And.intro ?_ ?_
      all_goals first | omega | exact h1 (by simp [q, q2])
  · repeat' first
      | refine And.intro (fun _ => ?_) (fun _ => ?_)
      | refine And.intro ?_ ?_
    all_goals first | omega | exact h0 (by simp [q])
theorem c_minutes (hd : 1 ≤ d) (hW : y_W (vC μ s)) (ha : 0 ≤ a ∧ a ≤ μ 1 0) (hb : 0 ≤ b ∧ b ≤ μ 1 0) (h : K (some (.inl (f_min (vC μ s) a b))) μ) : zCall g d 102 [.inr (.inr ((0, 10), 25)), .inr (.inr ((0, 7), s)), .inl a, .inl b] μ K := by
  refine zcX10_minutes [] 60 rfl (fun _ _ => ?_)
  have w1 := w_env hW
  have w2 := w_tn hW
  have e8 : vC μ s 13 0 = μ 1 0 := by simp [vC, y_cl]
  have e9 : vC μ s 13 1 = μ 1 1 := by simp [vC, y_cl]
  have e10 : vC μ s 13 2 = μ 1 2 := by simp [vC, y_cl]
  have e11 : vC μ s 5 0 = μ s 0 := by simp [vC, y_cl]
  simp only [f_min, e8, e9, e10, e11] at h
  refine And.intro (by omega) (c_steps (by omega) (by omega) (by omega) ?_)
  refine And.intro (by omega) (c_steps (by omega) (by omega) (by omega) ?_)
  refine k_int h ?_
  have b1 : 0 ≤ f_steps (μ 1 0) (μ s 0) a ∧ f_steps (μ 1 0) (μ s 0) a ≤ 12 := by unfold f_steps; omega
  have b2 : 0 ≤ f_steps (μ 1 0) a b ∧ f_steps (μ 1 0) a b ≤ 12 := by unfold f_steps; omega
  generalize f_steps (μ 1 0) (μ s 0) a = p at *
  generalize f_steps (μ 1 0) a b = q at *
  have b3 : 0 ≤ μ 1 1 * (p + q) ∧ μ 1 1 * (p + q) ≤ 9 * 24 := by
    constructor
    · exact Int.mul_nonneg (by omega) (by omega)
    · exact Int.mul_le_mul (by omega) (by omega) (by omega) (by omega)
  rw [zw_id (x := p + q) (by unfold zI32; omega), zw_id (x := μ 1 1 * (p + q)) (by unfold zI32; omega), zw_id (x := 2 * μ 1 2) (by unfold zI32; omega), zw_id (by unfold zI32; omega)]
theorem c_isHooded (hd : 1 ≤ d) (hW : y_W (vC μ s)) (he : 0 ≤ e ∧ e < 12) (h1 : f_hooded (vC μ s) e = true → K (some (.inl 1)) μ) (h0 : f_hooded (vC μ s) e = false → K (some (.inl 0)) μ) : zCall g d 97 [.inr (.inr ((0, 10), 25)), .inr (.inr ((0, 7), s)), .inl e] μ K := by
  refine zcX10_isHooded [] 60 rfl (fun _ _ => ?_)
  have w1 := w_env hW
  have w2 := w_en hW he
  have e6 : vC μ s 2 e = μ (s + 3) e := y_in he
  simp only [f_hooded, e6] at h1 h0
  refine And.intro (by omega) (c_onRoad he (fun q => ?_) (fun q => ?_))
  · repeat' first
      | refine And.intro (fun _ => ?_) (fun _ => ?_)
      | refine And.intro ?_ ?_
    all_goals first | omega | exact h0 (by simp [q])
  · have w3 := (w_st hW (x := μ (s + 3) e) (by omega)).1
    have e2 : vC μ s 0 (μ (s + 3) e) = μ (s + 1) (μ (s + 3) e) := y_in (by omega)
    refine And.intro (fun _ => by omega) (fun _ => ?_)
    refine And.intro (by omega) (And.intro (by omega) (c_atBack he (by omega) (fun q2 => ?_) (fun q2 => ?_)))
    · have e4 : f_atb (vC μ s) e = true := by simp [f_atb, e6, e2, q2]
      rw [e4, f_hood_t (by omega)] at h1 h0
      refine And.intro (by omega) (c_isHood (by omega) (by omega) (Or.inr rfl) (fun q3 => ?_) (fun q3 => ?_))
      · repeat' first
          | refine And.intro (fun _ => ?_) (fun _ => ?_)
          | refine And.intro ?_ ?_
        all_goals first | omega | exact h1 (by simp [q]; omega)
      · repeat' first
          | refine And.intro (fun _ => ?_) (fun _ => ?_)
          | refine And.intro ?_ ?_
        all_goals first | omega | exact h0 (by simp [q]; omega)
    · have e4 : f_atb (vC μ s) e = false := by
        simp only [f_atb, e6, e2, decide_eq_false_iff_not]
        exact q2
      rw [e4, f_hood_f (by omega)] at h1 h0
      refine And.intro (by omega) (c_isHood (by omega) (by omega) (Or.inl rfl) (fun q3 => ?_) (fun q3 => ?_))
      · repeat' first
          | refine And.intro (fun _ => ?_) (fun _ => ?_)
          | refine And.intro ?_ ?_
        all_goals first | omega | exact h1 (by simp [q]; omega)
      · repeat' first
          | refine And.intro (fun _ => ?_) (fun _ => ?_)
          | refine And.intro ?_ ?_
        all_goals first | omega | exact h0 (by simp [q]; omega)
end CY
