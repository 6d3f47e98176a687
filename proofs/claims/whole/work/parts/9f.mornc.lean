-- needs 9e
/-! the morning: the class -/
def zE92 (μ' μ : zM) : Prop := ∀ j, ¬ (j = 16 ∨ j = 17 ∨ j = 25 ∨ (92 ≤ j ∧ j ≤ 101)) → μ' j = μ j
def zE9 (μ' μ : zM) : Prop := ∀ j, ¬ (j = 16 ∨ j = 17 ∨ j = 25 ∨ (92 ≤ j ∧ j ≤ 97) ∨ (99 ≤ j ∧ j ≤ 101)) → μ' j = μ j
section
variable {g : zG} {d : Nat} {K : Option zV → zM → Prop} {μ Y X Z : zM} {b e t v fr : Int}
theorem c_lightOne (hr : zrl μ) (hv : vC μ 93 = Z) (he : e = -1 ∨ (0 ≤ e ∧ e < 12)) (hb : Z 5 1 = b) (h : ∀ μ', (∀ j, ¬ j = 97 → μ' j = μ j) → vC μ' 93 = mo_l1 b Z e → K none μ') : zCall g d 24 [.inr (.inr ((0, 2), 92)), .inl e] μ K := by
  unfold mo_l1 at h
  have e3 : 0 ≤ e ∧ e < 12 → Z 3 e = μ 97 e := fun he => by rw [← hv]; exact y_in he
  refine sX2_lightOne ⟨fun q => ?_, fun q => ⟨by omega, fun q2 => ?_, fun q2 => ?_⟩⟩
  · rw [if_pos q] at h
    exact h μ (fun _ _ => rfl) hv
  · rw [if_neg q, if_neg (by rw [e3 (by omega)]; exact q2)] at h
    exact h μ (fun _ _ => rfl) hv
  · have e5 : μ 93 1 = b := by rw [← hb, ← hv]; simp [vC, y_cl]
    rw [if_neg q, if_pos (by rw [e3 (by omega)]; exact q2)] at h
    rw [e5]
    refine h _ (fun j hj => zU_off j hj) ?_
    have := vU4 (μ := μ) (s := 93) (i := e) (v := b) hr (by omega) (by omega)
    rw [hv] at this
    exact this
theorem c_lightAll {n : Nat} (hd : 2 ≤ d) (hr : zrl μ) (hv : vC μ 93 = Z) (hp : mo_p Y Z) (h78 : μ 78 3 = (n : Int)) (hn : n ≤ 8) (h82 : ∀ i : Int, 0 ≤ i ∧ i < 8 → μ 82 i = X 7 i) (hX : ∀ t : Nat, t < n → X 7 (t : Int) = -1 ∨ (0 ≤ X 7 (t : Int) ∧ X 7 (t : Int) < Y 13 3))
    (h : ∀ μ', (∀ j, ¬ j = 97 → μ' j = μ j) → vC μ' 93 = z_lp (mo_lt X (Y 5 1)) n 0 Z → K none μ') : zCall g d 23 [.inr (.inr ((0, 2), 92))] μ K := by
  refine sX2_lightAll ?_
  have loop : ∀ (k i : Nat) (N A : zM), i + k = n → (∀ j, ¬ j = 97 → N j = μ j) → vC N 93 = A → mo_p Y A → z_lp (mo_lt X (Y 5 1)) n 0 Z = z_lp (mo_lt X (Y 5 1)) k i A → zT g d mX2_lightAll K 2 [some (.inr (.inr ((0, 2), 92))), some (.inl (i : Int)), none] [] N := by
    intro k
    induction k with
    | zero =>
      intro i N A hi hN hvN hpA hz
      refine sX2_lightAll_2 ⟨fun _ => h N hN (by rw [hz]; exact hvN), fun q => ?_⟩
      rw [hN 78 (by omega), h78] at q
      omega
    | succ k ih =>
      intro i N A hi hN hvN hpA hz
      have e82 : N 82 (i : Int) = X 7 (i : Int) := by rw [hN 82 (by omega)]; exact h82 _ (by omega)
      have hXi := hX i (by omega)
      have rN : zrl N := zrl_same hr (hN 12 (by omega))
      have next : ∀ N' A', (∀ j, ¬ j = 97 → N' j = N j) → vC N' 93 = A' → mo_lt X (Y 5 1) i A = A' → zT g d mX2_lightAll K 2 [some (.inr (.inr ((0, 2), 92))), some (.inl (zw ((i : Int) + 1))), none] [] N' := by
        intro N' A' g1 g2 g3
        rw [zw_suc (by omega)]
        refine ih (i + 1) N' A' (by omega) (fun j hj => by rw [g1 j hj, hN j hj]) g2 (by rw [← g3]; exact mo_lt_p hpA hXi) ?_
        rw [hz, ← g3]
        rfl
      refine sX2_lightAll_2 ⟨fun q => ?_, fun _ => ⟨by omega, fun q => ?_, fun q => ⟨by omega, ?_⟩⟩⟩
      · rw [hN 78 (by omega), h78] at q
        omega
      · rw [e82] at q
        exact next N A (fun _ _ => rfl) hvN (if_pos q)
      · rw [e82] at q ⊢
        have w := hpA.1.1
        have w5 : A 5 1 = Y 5 1 := by rw [hpA.2 5 (by omega)]
        have r13 : Y 13 3 ≤ 12 := by rw [hpA.2 13 (by omega)] at w; omega
        refine c_lightOne rN hvN (by omega) w5 (fun P hP hvP => zn ?_)
        have hpP := mo_l1_p hpA hXi
        have wP := w_en (s := 93) (μ := P) (e := X 7 (i : Int)) (by rw [hvP]; exact hpP.1) (by omega)
        have wPe := w_env (s := 93) (μ := P) (by rw [hvP]; exact hpP.1)
        refine c_inFrontOf (s := 93) (by omega) (by omega) (by omega) (zi ?_)
        rw [hvP]
        have ah := mo_ahead_r hpP.1 (e := X 7 (i : Int)) (by omega)
        rw [hpP.2 13 (by omega)] at ah
        have rP : zrl P := zrl_same rN (hP 12 (by omega))
        refine c_lightOne rP hvP (by omega) (by rw [hpP.2 5 (by omega)]) (fun P2 hP2 hvP2 => zn ?_)
        exact next P2 _ (fun j hj => by rw [hP2 j hj, hP j hj]) hvP2 (if_neg q)
  exact loop n 0 μ Z (by omega) (fun _ _ => rfl) hv hp rfl
/-- one comes out of its stall -/
theorem c_come57 (hd : 5 ≤ d) (hr : zrl μ) (hv : vC μ 93 = zU Z 5 1 v) (hok : mo_ok Y Z) (hb : 0 ≤ Y 5 1 ∧ Y 5 1 ≤ 320000) (he : 0 ≤ e ∧ e < Y 13 3) (hin : ¬ Z 2 e = -1) (hfr : Y 5 1 ≤ fr ∧ fr ≤ 330000) (h9 : μ 92 9 = fr) (ht : 0 ≤ t ∧ t < 8) (h79 : μ 79 t = X 4 t) (h4 : 0 ≤ X 4 t ∧ X 4 t ≤ 2000)
    (h1 : f_frees (mo_Z1 Z (Y 5 1) fr e) e = true → ∀ μ', zE9 μ' μ → vC μ' 93 = f_free (mo_Z1 Z (Y 5 1) fr e) e → μ' 92 9 = f_free (mo_Z1 Z (Y 5 1) fr e) e 5 1 → (∀ i, ¬ i = t → μ' 99 i = μ 99 i ∧ μ' 100 i = μ 100 i ∧ μ' 101 i = μ 101 i) → μ' 99 t = max 0 (fr - (X 4 t - f_om (mo_Z1 Z (Y 5 1) fr e) e)) → μ' 100 t = max 0 (mo_rd2 Z (Y 5 1) e - (X 4 t - f_om (mo_Z1 Z (Y 5 1) fr e) e)) → μ' 101 t = f_am (mo_Z1 Z (Y 5 1) fr e) e → K (some (.inl (max 0 (f_free (mo_Z1 Z (Y 5 1) fr e) e 5 1 - X 4 t)))) μ')
    (h0 : f_frees (mo_Z1 Z (Y 5 1) fr e) e = false → ∀ μ', zE9 μ' μ → vC μ' 93 = mo_Z1 Z (Y 5 1) fr e → μ' 92 9 = fr → (∀ j, 99 ≤ j → j ≤ 101 → μ' j = μ j) → K (some (.inl (-1))) μ') : zT g d mX2_comeFromStall K 57 [some (.inr (.inr ((0, 2), 92))), some (.inl t), some (.inl e), none, some (.inl (mo_rd2 Z (Y 5 1) e)), none] [] μ := by
  have w := mo_ok_b hok
  have e13 : Z 13 = Y 13 := hok.2.2 13 (by omega) (by omega)
  have he' : 0 ≤ e ∧ e < 12 := by rw [← e13] at he; omega
  have rb := mo_rd2_b hok he'
  have hW1 : y_W (mo_Z1 Z (Y 5 1) fr e) := mo_ok_w hok (by omega)
  refine sX2_comeFromStall_57 ⟨by omega, ?_⟩
  rw [h9]
  generalize hM : zU μ 93 1 (max fr (mo_rd2 Z (Y 5 1) e)) = M
  have rM : zrl M := by rw [← hM]; exact zrl_U hr (by omega)
  have vM' : vC M 93 = mo_Z1 Z (Y 5 1) fr e := by
    rw [← hM, vU5 hr (by omega) (Or.inr rfl), hv, zU_2]
    rfl
  have mj : ∀ j, ¬ j = 93 → M j = μ j := fun j hj => by rw [← hM, zU_off j hj]
  have m96 : M 96 e = Z 2 e := by
    have : vC M 93 2 e = M 96 e := y_in he'
    rw [← this, vM']
    show zU Z 5 1 _ 2 e = Z 2 e
    rw [zU_off 2 (by omega)]
  have m5 : M 5 0 = Y 13 3 := by
    have : vC M 93 13 3 = M 5 0 := by simp only [vC]; rfl
    rw [← this, vM']
    show zU Z 5 1 _ 13 3 = Y 13 3
    rw [zU_off 13 (by omega), e13]
  have m931 : M 93 1 = max fr (mo_rd2 Z (Y 5 1) e) := by rw [← hM, zU_eq]
  refine c_freeing (s := 93) (by omega) (by unfold zs; omega) rM (by rw [vM']; exact hW1) (by rw [vM']; exact y_R_n hok.2.1) he' (by show ¬ M 96 e = -1; rw [m96]; exact hin) (fun P hP hPq => zi ?_)
  rw [vM'] at hPq ⊢
  have pj : ∀ j, ¬ (j = 16 ∨ j = 17 ∨ j = 25 ∨ j = 93) → P j = μ j := fun j hj => by rw [hP j (by omega), mj j (by omega)]
  have vP : vC P 93 = mo_Z1 Z (Y 5 1) fr e := by rw [hP.v rM (by unfold zs; omega)]; exact vM'
  by_cases qf : f_frees (mo_Z1 Z (Y 5 1) fr e) e = true
  · obtain ⟨g1, g2, g3, g4⟩ := mo_go1 hok hb he hin (by omega) qf
    obtain ⟨k3, k4, k5⟩ := hPq qf
    rw [if_pos qf]
    refine ⟨fun _ => ⟨by omega, ?_⟩, fun q => by omega⟩
    rw [k4, k5, pj 92 (by omega), pj 79 (by omega), h9, h79, zwi (x := X 4 t - f_om (mo_Z1 Z (Y 5 1) fr e) e) (by omega) (by omega), zwi (x := fr - (X 4 t - f_om (mo_Z1 Z (Y 5 1) fr e) e)) (by omega) (by omega), zwi (x := mo_rd2 Z (Y 5 1) e - (X 4 t - f_om (mo_Z1 Z (Y 5 1) fr e) e)) (by omega) (by omega)]
    generalize hQ : zU (zU (zU P 99 t (max 0 (fr - (X 4 t - f_om (mo_Z1 Z (Y 5 1) fr e) e)))) 100 t (max 0 (mo_rd2 Z (Y 5 1) e - (X 4 t - f_om (mo_Z1 Z (Y 5 1) fr e) e)))) 101 t (f_am (mo_Z1 Z (Y 5 1) fr e) e) = Q
    have qj : ∀ j, ¬ (j = 99 ∨ j = 100 ∨ j = 101) → Q j = P j := fun j hj => by rw [← hQ, zU_off j (by omega), zU_off j (by omega), zU_off j (by omega)]
    have rP : zrl P := hP.rl rM
    have rQ : zrl Q := zrl_same rP (qj 12 (by omega))
    have vQ : vC Q 93 = mo_Z1 Z (Y 5 1) fr e := by
      rw [← vP, ← hQ]
      have cu : ∀ (A : zM) (j : Nat) (x y : Int), zrl A → 99 ≤ j → vC (zU A j x y) 93 = vC A 93 := by
        intro A j x y hA hj
        funext k i
        match k with
        | 0 => simp only [vC]; rw [zU_off _ (by omega)]
        | 1 => simp only [vC]; rw [zU_off _ (by omega)]
        | 2 => simp only [vC]; rw [zU_off _ (by omega)]
        | 3 => simp only [vC]; rw [zU_off _ (by omega)]
        | 4 => simp only [vC]; rw [zU_off _ (by omega)]
        | 5 => simp only [vC]; rw [zU_off _ (by omega)]
        | 6 => simp only [vC]; rw [zU_off _ (by omega)]
        | 7 => simp only [vC]; rw [zU_off _ (by omega)]
        | 8 => simp only [vC]; rw [zU_off _ (by omega)]
        | 9 => simp only [vC]; rw [zU_off _ (by omega)]
        | 10 => simp only [vC]; rw [zU_off _ (by omega)]
        | 11 => simp only [vC]; rw [zU_off _ (by omega)]
        | 12 => simp only [vC]; rw [zU_off _ (by omega)]
        | 13 => simp only [vC]; rw [zU_off _ (by omega), zU_off _ (by omega)]
        | 14 =>
          simp only [vC]
          rw [zU_off 12 (by omega)]
          rcases hA with hA | hA <;> rw [hA]
          · rw [show ((14 : Int)).toNat = 14 from rfl, zU_off 14 (by omega)]
          · rw [show ((15 : Int)).toNat = 15 from rfl, zU_off 15 (by omega)]
        | 15 => simp only [vC]; rw [zU_off _ (by omega)]
        | k + 16 => simp only [vC]
      rw [cu _ 101 _ _ (zrl_U (zrl_U rP (by omega)) (by omega)) (by omega), cu _ 100 _ _ (zrl_U rP (by omega)) (by omega), cu _ 99 _ _ rP (by omega)]
    have q96 : Q 96 e = Z 2 e := by rw [qj 96 (by omega), hP 96 (by omega)]; exact m96
    have q931 : Q 93 1 = max fr (mo_rd2 Z (Y 5 1) e) := by rw [qj 93 (by omega), hP 93 (by omega)]; exact m931
    refine c_sendOut (s := 93) (by omega) (by unfold zs; omega) rQ (by rw [vQ]; exact hW1) (by rw [qj 5 (by omega), hP 5 (by omega), m5]; exact he) (by show ¬ Q 96 e = -1; rw [q96]; exact hin) (by rw [q931]; omega) (by rw [vQ]; exact qf) (by rw [vQ, qj 25 (by omega)]; exact k3) (fun T hT hvT => zn ?_)
    rw [vQ] at hvT
    have t931 : T 93 1 = f_free (mo_Z1 Z (Y 5 1) fr e) e 5 1 := by rw [← hvT]; simp [vC, y_cl]
    have tj : ∀ j, ¬ (93 ≤ j ∧ j ≤ 96) → T j = Q j := fun j hj => hT j (by omega)
    have t79 : T 79 t = X 4 t := by rw [tj 79 (by omega), qj 79 (by omega), pj 79 (by omega)]; exact h79
    rw [t931, t79, zwi (x := f_free (mo_Z1 Z (Y 5 1) fr e) e 5 1 - X 4 t) (by omega) (by omega)]
    refine h1 qf _ (fun j hj => by rw [zU_off j (by omega), tj j (by omega), qj j (by omega), pj j (by omega)]) ?_ zU_eq (fun i hi => ?_) ?_ ?_ ?_
    · rw [← hvT]
      funext k i
      match k with
      | 0 => simp only [vC]; rw [zU_off _ (by omega)]
      | 1 => simp only [vC]; rw [zU_off _ (by omega)]
      | 2 => simp only [vC]; rw [zU_off _ (by omega)]
      | 3 => simp only [vC]; rw [zU_off _ (by omega)]
      | 4 => simp only [vC]; rw [zU_off _ (by omega)]
      | 5 => simp only [vC]; rw [zU_off _ (by omega)]
      | 6 => simp only [vC]; rw [zU_off _ (by omega)]
      | 7 => simp only [vC]; rw [zU_off _ (by omega)]
      | 8 => simp only [vC]; rw [zU_off _ (by omega)]
      | 9 => simp only [vC]; rw [zU_off _ (by omega)]
      | 10 => simp only [vC]; rw [zU_off _ (by omega)]
      | 11 => simp only [vC]; rw [zU_off _ (by omega)]
      | 12 => simp only [vC]; rw [zU_off _ (by omega)]
      | 13 => simp only [vC]; rw [zU_off _ (by omega), zU_off _ (by omega)]
      | 14 =>
        have rT : zrl T := zrl_same rQ (tj 12 (by omega))
        simp only [vC]
        rw [zU_off 12 (by omega)]
        rcases rT with hA | hA <;> rw [hA]
        · rw [show ((14 : Int)).toNat = 14 from rfl, zU_off 14 (by omega)]
        · rw [show ((15 : Int)).toNat = 15 from rfl, zU_off 15 (by omega)]
      | 15 => simp only [vC]; rw [zU_off _ (by omega)]
      | k + 16 => simp only [vC]
    · rw [zU_off 99 (by omega), zU_off 100 (by omega), zU_off 101 (by omega), tj 99 (by omega), tj 100 (by omega), tj 101 (by omega), ← hQ]
      refine ⟨?_, ?_, ?_⟩
      · rw [zU_off 99 (by omega), zU_off 99 (by omega), zU_ne (by omega), pj 99 (by omega)]
      · rw [zU_off 100 (by omega), zU_ne (by omega), zU_off 100 (by omega), pj 100 (by omega)]
      · rw [zU_ne (by omega), zU_off 101 (by omega), zU_off 101 (by omega), pj 101 (by omega)]
    · rw [zU_off 99 (by omega), tj 99 (by omega), ← hQ, zU_off 99 (by omega), zU_off 99 (by omega), zU_eq]
    · rw [zU_off 100 (by omega), tj 100 (by omega), ← hQ, zU_off 100 (by omega), zU_eq]
    · rw [zU_off 101 (by omega), tj 101 (by omega), ← hQ, zU_eq]
  · rw [if_neg qf]
    refine ⟨fun q => by omega, fun _ => h0 (by simpa using qf) P (fun j hj => pj j (by omega)) vP (by rw [pj 92 (by omega)]; exact h9) (fun j _ _ => pj j (by omega))⟩
end
