-- needs 30 35 45 46 50
/-! what the rest of the cells hold; how the yard's picture changes with a cell -/
section
variable {μ : zM} {co : Int → Int} {cn i v : Int}
theorem vE6 (hr : zrl μ) (h : 0 ≤ i ∧ i < 23) : vC (zU μ 2 i v) 20 = zU (vC μ 20) 6 i v := by
  funext q x
  match q with
  | 0 => simp [vC, zU, y_cl]
  | 1 => simp [vC, zU, y_cl]
  | 2 => simp [vC, zU, y_cl]
  | 3 => simp [vC, zU, y_cl]
  | 4 => simp [vC, zU, y_cl]
  | 5 => simp [vC, zU, y_cl]
  | 6 =>
    show y_cl 23 (zU μ 2 i v 2) x = _
    rw [y_cl_U h]
    simp [zU, vC]
  | 7 => simp [vC, zU, y_cl]
  | 8 => simp [vC, zU, y_cl]
  | 9 => simp [vC, zU, y_cl]
  | 10 => simp [vC, zU, y_cl]
  | 11 => simp [vC, zU, y_cl]
  | 12 => simp [vC, zU, y_cl]
  | 13 => simp [vC, zU, y_cl]
  | 14 =>
    rcases hr with hr | hr <;> simp [vC, zU, y_cl, hr]
  | 15 => simp [vC, zU, y_cl]
  | q + 16 => simp [vC, zU, y_cl]
theorem vE7 (hr : zrl μ) (h : 0 ≤ i ∧ i < 23) : vC (zU μ 3 i v) 20 = zU (vC μ 20) 7 i v := by
  funext q x
  match q with
  | 0 => simp [vC, zU, y_cl]
  | 1 => simp [vC, zU, y_cl]
  | 2 => simp [vC, zU, y_cl]
  | 3 => simp [vC, zU, y_cl]
  | 4 => simp [vC, zU, y_cl]
  | 5 => simp [vC, zU, y_cl]
  | 6 => simp [vC, zU, y_cl]
  | 7 =>
    show y_cl 23 (zU μ 3 i v 3) x = _
    rw [y_cl_U h]
    simp [zU, vC]
  | 8 => simp [vC, zU, y_cl]
  | 9 => simp [vC, zU, y_cl]
  | 10 => simp [vC, zU, y_cl]
  | 11 => simp [vC, zU, y_cl]
  | 12 => simp [vC, zU, y_cl]
  | 13 => simp [vC, zU, y_cl]
  | 14 =>
    rcases hr with hr | hr <;> simp [vC, zU, y_cl, hr]
  | 15 => simp [vC, zU, y_cl]
  | q + 16 => simp [vC, zU, y_cl]
theorem vE8 (hr : zrl μ) (h : 0 ≤ i ∧ i < 23) : vC (zU μ 4 i v) 20 = zU (vC μ 20) 8 i v := by
  funext q x
  match q with
  | 0 => simp [vC, zU, y_cl]
  | 1 => simp [vC, zU, y_cl]
  | 2 => simp [vC, zU, y_cl]
  | 3 => simp [vC, zU, y_cl]
  | 4 => simp [vC, zU, y_cl]
  | 5 => simp [vC, zU, y_cl]
  | 6 => simp [vC, zU, y_cl]
  | 7 => simp [vC, zU, y_cl]
  | 8 =>
    show y_cl 23 (zU μ 4 i v 4) x = _
    rw [y_cl_U h]
    simp [zU, vC]
  | 9 => simp [vC, zU, y_cl]
  | 10 => simp [vC, zU, y_cl]
  | 11 => simp [vC, zU, y_cl]
  | 12 => simp [vC, zU, y_cl]
  | 13 => simp [vC, zU, y_cl]
  | 14 =>
    rcases hr with hr | hr <;> simp [vC, zU, y_cl, hr]
  | 15 => simp [vC, zU, y_cl]
  | q + 16 => simp [vC, zU, y_cl]
theorem vE9 (hr : zrl μ) (h : 0 ≤ i ∧ i < 12) : vC (zU μ 6 i v) 20 = zU (vC μ 20) 9 i v := by
  funext q x
  match q with
  | 0 => simp [vC, zU, y_cl]
  | 1 => simp [vC, zU, y_cl]
  | 2 => simp [vC, zU, y_cl]
  | 3 => simp [vC, zU, y_cl]
  | 4 => simp [vC, zU, y_cl]
  | 5 => simp [vC, zU, y_cl]
  | 6 => simp [vC, zU, y_cl]
  | 7 => simp [vC, zU, y_cl]
  | 8 => simp [vC, zU, y_cl]
  | 9 =>
    show y_cl 12 (zU μ 6 i v 6) x = _
    rw [y_cl_U h]
    simp [zU, vC]
  | 10 => simp [vC, zU, y_cl]
  | 11 => simp [vC, zU, y_cl]
  | 12 => simp [vC, zU, y_cl]
  | 13 => simp [vC, zU, y_cl]
  | 14 =>
    rcases hr with hr | hr <;> simp [vC, zU, y_cl, hr]
  | 15 => simp [vC, zU, y_cl]
  | q + 16 => simp [vC, zU, y_cl]
theorem vE10 (hr : zrl μ) (h : 0 ≤ i ∧ i < 12) : vC (zU μ 7 i v) 20 = zU (vC μ 20) 10 i v := by
  funext q x
  match q with
  | 0 => simp [vC, zU, y_cl]
  | 1 => simp [vC, zU, y_cl]
  | 2 => simp [vC, zU, y_cl]
  | 3 => simp [vC, zU, y_cl]
  | 4 => simp [vC, zU, y_cl]
  | 5 => simp [vC, zU, y_cl]
  | 6 => simp [vC, zU, y_cl]
  | 7 => simp [vC, zU, y_cl]
  | 8 => simp [vC, zU, y_cl]
  | 9 => simp [vC, zU, y_cl]
  | 10 =>
    show y_cl 12 (zU μ 7 i v 7) x = _
    rw [y_cl_U h]
    simp [zU, vC]
  | 11 => simp [vC, zU, y_cl]
  | 12 => simp [vC, zU, y_cl]
  | 13 => simp [vC, zU, y_cl]
  | 14 =>
    rcases hr with hr | hr <;> simp [vC, zU, y_cl, hr]
  | 15 => simp [vC, zU, y_cl]
  | q + 16 => simp [vC, zU, y_cl]
theorem vE11 (hr : zrl μ) (h : 0 ≤ i ∧ i < 12) : vC (zU μ 8 i v) 20 = zU (vC μ 20) 11 i v := by
  funext q x
  match q with
  | 0 => simp [vC, zU, y_cl]
  | 1 => simp [vC, zU, y_cl]
  | 2 => simp [vC, zU, y_cl]
  | 3 => simp [vC, zU, y_cl]
  | 4 => simp [vC, zU, y_cl]
  | 5 => simp [vC, zU, y_cl]
  | 6 => simp [vC, zU, y_cl]
  | 7 => simp [vC, zU, y_cl]
  | 8 => simp [vC, zU, y_cl]
  | 9 => simp [vC, zU, y_cl]
  | 10 => simp [vC, zU, y_cl]
  | 11 =>
    show y_cl 12 (zU μ 8 i v 8) x = _
    rw [y_cl_U h]
    simp [zU, vC]
  | 12 => simp [vC, zU, y_cl]
  | 13 => simp [vC, zU, y_cl]
  | 14 =>
    rcases hr with hr | hr <;> simp [vC, zU, y_cl, hr]
  | 15 => simp [vC, zU, y_cl]
  | q + 16 => simp [vC, zU, y_cl]
theorem vE12 (hr : zrl μ) (h : 0 ≤ i ∧ i < 12) : vC (zU μ 9 i v) 20 = zU (vC μ 20) 12 i v := by
  funext q x
  match q with
  | 0 => simp [vC, zU, y_cl]
  | 1 => simp [vC, zU, y_cl]
  | 2 => simp [vC, zU, y_cl]
  | 3 => simp [vC, zU, y_cl]
  | 4 => simp [vC, zU, y_cl]
  | 5 => simp [vC, zU, y_cl]
  | 6 => simp [vC, zU, y_cl]
  | 7 => simp [vC, zU, y_cl]
  | 8 => simp [vC, zU, y_cl]
  | 9 => simp [vC, zU, y_cl]
  | 10 => simp [vC, zU, y_cl]
  | 11 => simp [vC, zU, y_cl]
  | 12 =>
    show y_cl 12 (zU μ 9 i v 9) x = _
    rw [y_cl_U h]
    simp [zU, vC]
  | 13 => simp [vC, zU, y_cl]
  | 14 =>
    rcases hr with hr | hr <;> simp [vC, zU, y_cl, hr]
  | 15 => simp [vC, zU, y_cl]
  | q + 16 => simp [vC, zU, y_cl]
theorem vE13 (hr : zrl μ) (h : 0 ≤ i ∧ i < 3) : vC (zU μ 1 i v) 20 = zU (vC μ 20) 13 i v := by
  funext q x
  match q with
  | 0 => simp [vC, zU, y_cl]
  | 1 => simp [vC, zU, y_cl]
  | 2 => simp [vC, zU, y_cl]
  | 3 => simp [vC, zU, y_cl]
  | 4 => simp [vC, zU, y_cl]
  | 5 => simp [vC, zU, y_cl]
  | 6 => simp [vC, zU, y_cl]
  | 7 => simp [vC, zU, y_cl]
  | 8 => simp [vC, zU, y_cl]
  | 9 => simp [vC, zU, y_cl]
  | 10 => simp [vC, zU, y_cl]
  | 11 => simp [vC, zU, y_cl]
  | 12 => simp [vC, zU, y_cl]
  | 13 =>
    show (if x = 3 then zU μ 1 i v 5 0 else y_cl 3 (zU μ 1 i v 1) x) = _
    rw [y_cl_U h]
    by_cases q3 : x = 3
    · have : ¬ x = i := by omega
      simp [zU, vC, q3, show ¬ (3 : Int) = i from by omega]
    · simp [zU, vC, q3]
  | 14 =>
    rcases hr with hr | hr <;> simp [vC, zU, y_cl, hr]
  | 15 => simp [vC, zU, y_cl]
  | q + 16 => simp [vC, zU, y_cl]
theorem vE5 (hr : zrl μ) : vC (zU μ 5 0 v) 20 = zU (vC μ 20) 13 3 v := by
  funext q x
  match q with
  | 0 => simp [vC, zU, y_cl]
  | 1 => simp [vC, zU, y_cl]
  | 2 => simp [vC, zU, y_cl]
  | 3 => simp [vC, zU, y_cl]
  | 4 => simp [vC, zU, y_cl]
  | 5 => simp [vC, zU, y_cl]
  | 6 => simp [vC, zU, y_cl]
  | 7 => simp [vC, zU, y_cl]
  | 8 => simp [vC, zU, y_cl]
  | 9 => simp [vC, zU, y_cl]
  | 10 => simp [vC, zU, y_cl]
  | 11 => simp [vC, zU, y_cl]
  | 12 => simp [vC, zU, y_cl]
  | 13 =>
    by_cases q3 : x = 3 <;> simp [zU, vC, y_cl, q3]
  | 14 =>
    rcases hr with hr | hr <;> simp [vC, zU, y_cl, hr]
  | 15 => simp [vC, zU, y_cl]
  | q + 16 => simp [vC, zU, y_cl]
/-- a cell that the yard does not use -/
theorem vEo (hr : zrl μ) {j : Nat} (h : ¬ (1 ≤ j ∧ j ≤ 9) ∧ ¬ (j = 12 ∨ j = 14 ∨ j = 15) ∧ ¬ (20 ≤ j ∧ j ≤ 24)) : vC (zU μ j i v) 20 = vC μ 20 := by
  have e : ∀ k, (1 ≤ k ∧ k ≤ 9) ∨ (k = 12 ∨ k = 14 ∨ k = 15) ∨ (20 ≤ k ∧ k ≤ 24) → zU μ j i v k = μ k := fun k hk => zU_off k (by omega)
  funext q x
  match q with
  | 0 => simp only [vC]; rw [e 21 (by omega)]
  | 1 => simp only [vC]; rw [e 22 (by omega)]
  | 2 => simp only [vC]; rw [e 23 (by omega)]
  | 3 => simp only [vC]; rw [e 24 (by omega)]
  | 4 => simp only [vC]; rw [e 20 (by omega)]
  | 5 => simp only [vC]; rw [e 20 (by omega)]
  | 6 => simp only [vC]; rw [e 2 (by omega)]
  | 7 => simp only [vC]; rw [e 3 (by omega)]
  | 8 => simp only [vC]; rw [e 4 (by omega)]
  | 9 => simp only [vC]; rw [e 6 (by omega)]
  | 10 => simp only [vC]; rw [e 7 (by omega)]
  | 11 => simp only [vC]; rw [e 8 (by omega)]
  | 12 => simp only [vC]; rw [e 9 (by omega)]
  | 13 => simp only [vC]; rw [e 5 (by omega), e 1 (by omega)]
  | 14 =>
    simp only [vC]
    rw [e 12 (by omega)]
    rcases hr with hr | hr <;> rw [hr]
    · rw [show ((14 : Int)).toNat = 14 from rfl, e 14 (by omega)]
    · rw [show ((15 : Int)).toNat = 15 from rfl, e 15 (by omega)]
  | 15 => simp only [vC]; rw [e 12 (by omega)]
  | q + 16 => simp only [vC]
theorem vEr (hr : zrl μ) (h : ¬ (i = 2 ∨ i = 3)) : vC (zU μ 12 i v) 20 = vC μ 20 := by
  have e2 : zU μ 12 i v 12 2 = μ 12 2 := zU_ne (by omega)
  have e3 : zU μ 12 i v 12 3 = μ 12 3 := zU_ne (by omega)
  have e : ∀ k, ¬ k = 12 → zU μ 12 i v k = μ k := fun k hk => zU_off k hk
  funext q x
  match q with
  | 0 => simp only [vC]; rw [e 21 (by omega)]
  | 1 => simp only [vC]; rw [e 22 (by omega)]
  | 2 => simp only [vC]; rw [e 23 (by omega)]
  | 3 => simp only [vC]; rw [e 24 (by omega)]
  | 4 => simp only [vC]; rw [e 20 (by omega)]
  | 5 => simp only [vC]; rw [e 20 (by omega)]
  | 6 => simp only [vC]; rw [e 2 (by omega)]
  | 7 => simp only [vC]; rw [e 3 (by omega)]
  | 8 => simp only [vC]; rw [e 4 (by omega)]
  | 9 => simp only [vC]; rw [e 6 (by omega)]
  | 10 => simp only [vC]; rw [e 7 (by omega)]
  | 11 => simp only [vC]; rw [e 8 (by omega)]
  | 12 => simp only [vC]; rw [e 9 (by omega)]
  | 13 => simp only [vC]; rw [e 5 (by omega), e 1 (by omega)]
  | 14 =>
    simp only [vC]
    rw [e2, e3]
    rcases hr with hr | hr <;> rw [hr]
    · rw [show ((14 : Int)).toNat = 14 from rfl, e 14 (by omega)]
    · rw [show ((15 : Int)).toNat = 15 from rfl, e 15 (by omega)]
  | 15 => simp only [vC]; rw [e3]
  | q + 16 => simp only [vC]
theorem mE6 (h : 0 ≤ i ∧ i < 23) : vM (zU μ 120 i v) co cn = zU (vM μ co cn) 6 i v := by
  funext q x
  match q with
  | 0 => simp [vM, zU, y_cl]
  | 1 => simp [vM, zU, y_cl]
  | 2 => simp [vM, zU, y_cl]
  | 3 => simp [vM, zU, y_cl]
  | 4 => simp [vM, zU, y_cl]
  | 5 => simp [vM, zU, y_cl]
  | 6 =>
    show y_cl 23 (zU μ 120 i v 120) x = _
    rw [y_cl_U h]
    simp [zU, vM]
  | 7 => simp [vM, zU, y_cl]
  | 8 => simp [vM, zU, y_cl]
  | 9 => simp [vM, zU, y_cl]
  | 10 => simp [vM, zU, y_cl]
  | 11 => simp [vM, zU, y_cl]
  | 12 => simp [vM, zU, y_cl]
  | 13 => simp [vM, zU, y_cl]
  | 14 => simp [vM, zU, y_cl]
  | 15 => simp [vM, zU, y_cl]
  | q + 16 => simp [vM, zU, y_cl]
theorem mE7 (h : 0 ≤ i ∧ i < 23) : vM (zU μ 121 i v) co cn = zU (vM μ co cn) 7 i v := by
  funext q x
  match q with
  | 0 => simp [vM, zU, y_cl]
  | 1 => simp [vM, zU, y_cl]
  | 2 => simp [vM, zU, y_cl]
  | 3 => simp [vM, zU, y_cl]
  | 4 => simp [vM, zU, y_cl]
  | 5 => simp [vM, zU, y_cl]
  | 6 => simp [vM, zU, y_cl]
  | 7 =>
    show y_cl 23 (zU μ 121 i v 121) x = _
    rw [y_cl_U h]
    simp [zU, vM]
  | 8 => simp [vM, zU, y_cl]
  | 9 => simp [vM, zU, y_cl]
  | 10 => simp [vM, zU, y_cl]
  | 11 => simp [vM, zU, y_cl]
  | 12 => simp [vM, zU, y_cl]
  | 13 => simp [vM, zU, y_cl]
  | 14 => simp [vM, zU, y_cl]
  | 15 => simp [vM, zU, y_cl]
  | q + 16 => simp [vM, zU, y_cl]
theorem mE8 (h : 0 ≤ i ∧ i < 23) : vM (zU μ 122 i v) co cn = zU (vM μ co cn) 8 i v := by
  funext q x
  match q with
  | 0 => simp [vM, zU, y_cl]
  | 1 => simp [vM, zU, y_cl]
  | 2 => simp [vM, zU, y_cl]
  | 3 => simp [vM, zU, y_cl]
  | 4 => simp [vM, zU, y_cl]
  | 5 => simp [vM, zU, y_cl]
  | 6 => simp [vM, zU, y_cl]
  | 7 => simp [vM, zU, y_cl]
  | 8 =>
    show y_cl 23 (zU μ 122 i v 122) x = _
    rw [y_cl_U h]
    simp [zU, vM]
  | 9 => simp [vM, zU, y_cl]
  | 10 => simp [vM, zU, y_cl]
  | 11 => simp [vM, zU, y_cl]
  | 12 => simp [vM, zU, y_cl]
  | 13 => simp [vM, zU, y_cl]
  | 14 => simp [vM, zU, y_cl]
  | 15 => simp [vM, zU, y_cl]
  | q + 16 => simp [vM, zU, y_cl]
theorem mE9 (h : 0 ≤ i ∧ i < 12) : vM (zU μ 125 i v) co cn = zU (vM μ co cn) 9 i v := by
  funext q x
  match q with
  | 0 => simp [vM, zU, y_cl]
  | 1 => simp [vM, zU, y_cl]
  | 2 => simp [vM, zU, y_cl]
  | 3 => simp [vM, zU, y_cl]
  | 4 => simp [vM, zU, y_cl]
  | 5 => simp [vM, zU, y_cl]
  | 6 => simp [vM, zU, y_cl]
  | 7 => simp [vM, zU, y_cl]
  | 8 => simp [vM, zU, y_cl]
  | 9 =>
    show y_cl 12 (zU μ 125 i v 125) x = _
    rw [y_cl_U h]
    simp [zU, vM]
  | 10 => simp [vM, zU, y_cl]
  | 11 => simp [vM, zU, y_cl]
  | 12 => simp [vM, zU, y_cl]
  | 13 => simp [vM, zU, y_cl]
  | 14 => simp [vM, zU, y_cl]
  | 15 => simp [vM, zU, y_cl]
  | q + 16 => simp [vM, zU, y_cl]
theorem mE10 (h : 0 ≤ i ∧ i < 12) : vM (zU μ 126 i v) co cn = zU (vM μ co cn) 10 i v := by
  funext q x
  match q with
  | 0 => simp [vM, zU, y_cl]
  | 1 => simp [vM, zU, y_cl]
  | 2 => simp [vM, zU, y_cl]
  | 3 => simp [vM, zU, y_cl]
  | 4 => simp [vM, zU, y_cl]
  | 5 => simp [vM, zU, y_cl]
  | 6 => simp [vM, zU, y_cl]
  | 7 => simp [vM, zU, y_cl]
  | 8 => simp [vM, zU, y_cl]
  | 9 => simp [vM, zU, y_cl]
  | 10 =>
    show y_cl 12 (zU μ 126 i v 126) x = _
    rw [y_cl_U h]
    simp [zU, vM]
  | 11 => simp [vM, zU, y_cl]
  | 12 => simp [vM, zU, y_cl]
  | 13 => simp [vM, zU, y_cl]
  | 14 => simp [vM, zU, y_cl]
  | 15 => simp [vM, zU, y_cl]
  | q + 16 => simp [vM, zU, y_cl]
theorem mE11 (h : 0 ≤ i ∧ i < 12) : vM (zU μ 127 i v) co cn = zU (vM μ co cn) 11 i v := by
  funext q x
  match q with
  | 0 => simp [vM, zU, y_cl]
  | 1 => simp [vM, zU, y_cl]
  | 2 => simp [vM, zU, y_cl]
  | 3 => simp [vM, zU, y_cl]
  | 4 => simp [vM, zU, y_cl]
  | 5 => simp [vM, zU, y_cl]
  | 6 => simp [vM, zU, y_cl]
  | 7 => simp [vM, zU, y_cl]
  | 8 => simp [vM, zU, y_cl]
  | 9 => simp [vM, zU, y_cl]
  | 10 => simp [vM, zU, y_cl]
  | 11 =>
    show y_cl 12 (zU μ 127 i v 127) x = _
    rw [y_cl_U h]
    simp [zU, vM]
  | 12 => simp [vM, zU, y_cl]
  | 13 => simp [vM, zU, y_cl]
  | 14 => simp [vM, zU, y_cl]
  | 15 => simp [vM, zU, y_cl]
  | q + 16 => simp [vM, zU, y_cl]
theorem mE12 (h : 0 ≤ i ∧ i < 12) : vM (zU μ 128 i v) co cn = zU (vM μ co cn) 12 i v := by
  funext q x
  match q with
  | 0 => simp [vM, zU, y_cl]
  | 1 => simp [vM, zU, y_cl]
  | 2 => simp [vM, zU, y_cl]
  | 3 => simp [vM, zU, y_cl]
  | 4 => simp [vM, zU, y_cl]
  | 5 => simp [vM, zU, y_cl]
  | 6 => simp [vM, zU, y_cl]
  | 7 => simp [vM, zU, y_cl]
  | 8 => simp [vM, zU, y_cl]
  | 9 => simp [vM, zU, y_cl]
  | 10 => simp [vM, zU, y_cl]
  | 11 => simp [vM, zU, y_cl]
  | 12 =>
    show y_cl 12 (zU μ 128 i v 128) x = _
    rw [y_cl_U h]
    simp [zU, vM]
  | 13 => simp [vM, zU, y_cl]
  | 14 => simp [vM, zU, y_cl]
  | 15 => simp [vM, zU, y_cl]
  | q + 16 => simp [vM, zU, y_cl]
theorem mE4 (h : 0 ≤ i ∧ i < 12) : vM (zU μ 129 i v) co cn = zU (vM μ co cn) 4 i v := by
  funext q x
  match q with
  | 0 => simp [vM, zU, y_cl]
  | 1 => simp [vM, zU, y_cl]
  | 2 => simp [vM, zU, y_cl]
  | 3 => simp [vM, zU, y_cl]
  | 4 =>
    show y_cl 12 (zU μ 129 i v 129) x = _
    rw [y_cl_U h]
    simp [zU, vM]
  | 5 => simp [vM, zU, y_cl]
  | 6 => simp [vM, zU, y_cl]
  | 7 => simp [vM, zU, y_cl]
  | 8 => simp [vM, zU, y_cl]
  | 9 => simp [vM, zU, y_cl]
  | 10 => simp [vM, zU, y_cl]
  | 11 => simp [vM, zU, y_cl]
  | 12 => simp [vM, zU, y_cl]
  | 13 => simp [vM, zU, y_cl]
  | 14 => simp [vM, zU, y_cl]
  | 15 => simp [vM, zU, y_cl]
  | q + 16 => simp [vM, zU, y_cl]
theorem mE13_0 : vM (zU μ 119 0 v) co cn = zU (vM μ co cn) 13 0 v := by
  funext q x
  match q with
  | 0 => simp [vM, zU, y_cl]
  | 1 => simp [vM, zU, y_cl]
  | 2 => simp [vM, zU, y_cl]
  | 3 => simp [vM, zU, y_cl]
  | 4 => simp [vM, zU, y_cl]
  | 5 =>
    simp only [vM, y_cl, zU]
    by_cases a : 0 ≤ x ∧ x < 2
    · simp [a]; omega
    · simp [a]
  | 6 => simp [vM, zU, y_cl]
  | 7 => simp [vM, zU, y_cl]
  | 8 => simp [vM, zU, y_cl]
  | 9 => simp [vM, zU, y_cl]
  | 10 => simp [vM, zU, y_cl]
  | 11 => simp [vM, zU, y_cl]
  | 12 => simp [vM, zU, y_cl]
  | 13 =>
    by_cases a3 : x = 3
    · subst a3; simp [zU, vM]
    · by_cases a0 : x = 0
      · subst a0; simp [zU, vM]
      · by_cases a1 : x = 1
        · subst a1; simp [zU, vM]
        · by_cases a2 : x = 2
          · subst a2; simp [zU, vM]
          · simp [zU, vM, a0, a1, a2, a3]
  | 14 => simp [vM, zU, y_cl]
  | 15 => simp [vM, zU, y_cl]
  | q + 16 => simp [vM, zU, y_cl]
theorem mE13_1 : vM (zU μ 119 16 v) co cn = zU (vM μ co cn) 13 1 v := by
  funext q x
  match q with
  | 0 => simp [vM, zU, y_cl]
  | 1 => simp [vM, zU, y_cl]
  | 2 => simp [vM, zU, y_cl]
  | 3 => simp [vM, zU, y_cl]
  | 4 => simp [vM, zU, y_cl]
  | 5 =>
    simp only [vM, y_cl, zU]
    by_cases a : 0 ≤ x ∧ x < 2
    · simp [a]; omega
    · simp [a]
  | 6 => simp [vM, zU, y_cl]
  | 7 => simp [vM, zU, y_cl]
  | 8 => simp [vM, zU, y_cl]
  | 9 => simp [vM, zU, y_cl]
  | 10 => simp [vM, zU, y_cl]
  | 11 => simp [vM, zU, y_cl]
  | 12 => simp [vM, zU, y_cl]
  | 13 =>
    by_cases a3 : x = 3
    · subst a3; simp [zU, vM]
    · by_cases a0 : x = 0
      · subst a0; simp [zU, vM]
      · by_cases a1 : x = 1
        · subst a1; simp [zU, vM]
        · by_cases a2 : x = 2
          · subst a2; simp [zU, vM]
          · simp [zU, vM, a0, a1, a2, a3]
  | 14 => simp [vM, zU, y_cl]
  | 15 => simp [vM, zU, y_cl]
  | q + 16 => simp [vM, zU, y_cl]
theorem mE13_2 : vM (zU μ 119 17 v) co cn = zU (vM μ co cn) 13 2 v := by
  funext q x
  match q with
  | 0 => simp [vM, zU, y_cl]
  | 1 => simp [vM, zU, y_cl]
  | 2 => simp [vM, zU, y_cl]
  | 3 => simp [vM, zU, y_cl]
  | 4 => simp [vM, zU, y_cl]
  | 5 =>
    simp only [vM, y_cl, zU]
    by_cases a : 0 ≤ x ∧ x < 2
    · simp [a]; omega
    · simp [a]
  | 6 => simp [vM, zU, y_cl]
  | 7 => simp [vM, zU, y_cl]
  | 8 => simp [vM, zU, y_cl]
  | 9 => simp [vM, zU, y_cl]
  | 10 => simp [vM, zU, y_cl]
  | 11 => simp [vM, zU, y_cl]
  | 12 => simp [vM, zU, y_cl]
  | 13 =>
    by_cases a3 : x = 3
    · subst a3; simp [zU, vM]
    · by_cases a0 : x = 0
      · subst a0; simp [zU, vM]
      · by_cases a1 : x = 1
        · subst a1; simp [zU, vM]
        · by_cases a2 : x = 2
          · subst a2; simp [zU, vM]
          · simp [zU, vM, a0, a1, a2, a3]
  | 14 => simp [vM, zU, y_cl]
  | 15 => simp [vM, zU, y_cl]
  | q + 16 => simp [vM, zU, y_cl]
theorem mE13_3 (hp : μ 130 (μ 119 6) = -1) (hl : μ 131 (μ 119 6) = -1) (hv : v = μ 119 6 + 1) : vM (zU μ 119 6 v) co cn = zU (vM μ co cn) 13 3 v := by
  funext q x
  match q with
  | 0 => simp [vM, zU, y_cl]
  | 1 => simp [vM, zU, y_cl]
  | 2 =>
    show y_cl (zU μ 119 6 v 119 6) (zU μ 119 6 v 130) x = y_cl (μ 119 6) (μ 130) x
    rw [zU_eq, zU_off 130 (by omega)]
    unfold y_cl
    by_cases q : x = μ 119 6
    · rw [q, hp]
      simp
    · by_cases c : 0 ≤ x ∧ x < μ 119 6
      · rw [if_pos (by omega), if_pos c]
      · rw [if_neg (by omega), if_neg c]
  | 3 =>
    show y_cl (zU μ 119 6 v 119 6) (zU μ 119 6 v 131) x = y_cl (μ 119 6) (μ 131) x
    rw [zU_eq, zU_off 131 (by omega)]
    unfold y_cl
    by_cases q : x = μ 119 6
    · rw [q, hl]
      simp
    · by_cases c : 0 ≤ x ∧ x < μ 119 6
      · rw [if_pos (by omega), if_pos c]
      · rw [if_neg (by omega), if_neg c]
  | 4 => simp [vM, zU, y_cl]
  | 5 =>
    simp only [vM, y_cl, zU]
    by_cases a : 0 ≤ x ∧ x < 2
    · simp [a]; omega
    · simp [a]
  | 6 => simp [vM, zU, y_cl]
  | 7 => simp [vM, zU, y_cl]
  | 8 => simp [vM, zU, y_cl]
  | 9 => simp [vM, zU, y_cl]
  | 10 => simp [vM, zU, y_cl]
  | 11 => simp [vM, zU, y_cl]
  | 12 => simp [vM, zU, y_cl]
  | 13 =>
    by_cases a3 : x = 3
    · subst a3; simp [zU, vM]
    · by_cases a0 : x = 0
      · subst a0; simp [zU, vM]
      · by_cases a1 : x = 1
        · subst a1; simp [zU, vM]
        · by_cases a2 : x = 2
          · subst a2; simp [zU, vM]
          · simp [zU, vM, a0, a1, a2, a3]
  | 14 => simp [vM, zU, y_cl]
  | 15 => simp [vM, zU, y_cl]
  | q + 16 => simp [vM, zU, y_cl]
end
