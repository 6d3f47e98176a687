-- needs 50 51 52 53 54 55 56 57 58
/-! operations: fits, plan, wrong, train -/
/-- the first place from i on, of k, that holds e -/
def zsr (f : Int → Int) (e : Int) : Nat → Nat → Int
  | 0, _ => -1
  | k + 1, i => if f (i : Int) = e then (i : Int) else zsr f e k (i + 1)
def f_tof (X : zM) (e : Int) : Int := zsr (X 7) e (X 8 0).toNat 0
theorem zsr_b (f : Int → Int) (e : Int) : ∀ (k i : Nat), (zsr f e k i = -1 ∧ ∀ j : Nat, i ≤ j → j < i + k → ¬ f (j : Int) = e) ∨ ((i : Int) ≤ zsr f e k i ∧ zsr f e k i < (i : Int) + k ∧ f (zsr f e k i) = e)
  | 0, i => Or.inl ⟨rfl, fun j h1 h2 => by omega⟩
  | k + 1, i => by
    simp only [zsr]
    by_cases q : f (i : Int) = e
    · rw [if_pos q]
      exact Or.inr ⟨by omega, by omega, q⟩
    · rw [if_neg q]
      rcases zsr_b f e k (i + 1) with ⟨h1, h2⟩ | ⟨h1, h2, h3⟩
      · refine Or.inl ⟨h1, fun j h3 h4 => ?_⟩
        by_cases q2 : j = i
        · subst q2; exact q
        · exact h2 j (by omega) (by omega)
      · exact Or.inr ⟨by omega, by omega, h3⟩
def f_fit (Y X : zM) (e t : Int) : Bool := decide (Y 4 e = 0) && (decide (X 5 t ≤ Y 10 e) && decide ((if Y 3 e = -1 then Y 5 1 else Y 3 e) + Y 11 e ≤ X 4 t))
section
variable {g : zG} {d : Nat} {K : Option zV → zM → Prop} {μ μ' Y X : zM} {s m : Nat} {r : List Int} {S : zS} {co : Int → Int} {cn n x y z b i v e p t : Int}
theorem c_trainOf (hN : cN μ X) (h8 : 0 ≤ X 8 0 ∧ X 8 0 ≤ 8) (h : K (some (.inl (f_tof X e))) μ) : zCall g d 67 [.inr (.inr ((0, 8), 78)), .inl e] μ K := by
  refine sX8_trainOf ?_
  have h78 := hN.1
  have loop : ∀ (k i : Nat), (i : Int) + k = X 8 0 → K (some (.inl (zsr (X 7) e k i))) μ → zT g d mX8_trainOf K 2 [some (.inr (.inr ((0, 8), 78))), some (.inl e), some (.inl (i : Int))] [] μ := by
    intro k
    induction k with
    | zero => intro i hi hk; exact sX8_trainOf_2 ⟨fun _ => hk, fun q => by omega⟩
    | succ k ih =>
      intro i hi hk
      have e7 := hN.2.2.1 (i : Int) (by omega)
      simp only [zsr] at hk
      refine sX8_trainOf_2 ⟨fun q => by omega, fun q => ⟨by omega, fun q2 => ?_, fun q2 => ?_⟩⟩
      · rw [zw_suc (by omega)]
        rw [e7] at q2
        rw [if_neg q2] at hk
        exact ih (i + 1) (by omega) hk
      · rw [e7] at q2
        rw [if_pos q2] at hk
        exact hk
  exact loop (X 8 0).toNat 0 (by omega) h
theorem m_trainOf (hN : mN μ X) (h8 : 0 ≤ X 8 0 ∧ X 8 0 ≤ 8) (h : K (some (.inl (f_tof X e))) μ) : zCall g d 250 [.inr (.inr ((0, 12), 119)), .inl e] μ K := by
  refine sX12_trainOf ?_
  have h78 := hN.1
  have loop : ∀ (k i : Nat), (i : Int) + k = X 8 0 → K (some (.inl (zsr (X 7) e k i))) μ → zT g d mX12_trainOf K 2 [some (.inr (.inr ((0, 12), 119))), some (.inl e), some (.inl (i : Int))] [] μ := by
    intro k
    induction k with
    | zero => intro i hi hk; exact sX12_trainOf_2 ⟨fun _ => hk, fun q => by omega⟩
    | succ k ih =>
      intro i hi hk
      have e7 := (hN.2 (i : Int) (by omega)).2.2.2
      simp only [zsr] at hk
      refine sX12_trainOf_2 ⟨fun q => by omega, fun q => ⟨by omega, fun q2 => ?_, fun q2 => ?_⟩⟩
      · rw [zw_suc (by omega)]
        rw [e7] at q2
        rw [if_neg q2] at hk
        exact ih (i + 1) (by omega) hk
      · rw [e7] at q2
        rw [if_pos q2] at hk
        exact hk
  exact loop (X 8 0).toNat 0 (by omega) h
theorem c_hasT (h1 : 0 ≤ x ∧ x < μ 78 3 → K (some (.inl 1)) μ) (h0 : ¬ (0 ≤ x ∧ x < μ 78 3) → K (some (.inl 0)) μ) : zCall g d 65 [.inr (.inr ((0, 8), 78)), .inl x] μ K :=
  sX8_has ⟨fun q => h0 (by omega), fun q => ⟨fun q2 => h0 (by omega), fun q2 => h1 (by omega)⟩⟩
theorem c_suits (hd : 1 ≤ d) (hW : y_W (vC μ 20)) (hN : cN μ X) (hi : iN Y X) (he : 0 ≤ e ∧ e < 12) (ht : 0 ≤ t ∧ t < X 8 0) (h1 : f_fit (vC μ 20) X e t = true → K (some (.inl 1)) μ) (h0 : f_fit (vC μ 20) X e t = false → K (some (.inl 0)) μ) : zCall g d 68 [.inr (.inr ((0, 8), 78)), .inl e, .inl t] μ K := by
  have w1 := w_en hW he
  have w2 := w_tn hW
  have i8 := hi.1
  have e3 : vC μ 20 3 e = μ 24 e := y_in he
  have e4 : vC μ 20 4 e = zand (zshr (μ 20 2) e) 1 := by
    simp only [vC]
    exact y_in he
  have w3 : -1 ≤ μ 24 e ∧ μ 24 e ≤ μ 20 1 := ⟨w1.2.2.2.1, w1.2.2.2.2⟩
  have e10 : vC μ 20 10 e = μ 7 e := y_in he
  have e11 : vC μ 20 11 e = μ 8 e := y_in he
  have e51 : vC μ 20 5 1 = μ 20 1 := by simp [vC, y_cl]
  have ex := hN.2.1 t ht
  have ix := (hi.2.1 t ht).1
  have h1 : zand (zshr (μ 20 2) e) 1 = 0 ∧ X 5 t ≤ μ 7 e ∧ (if μ 24 e = -1 then μ 20 1 else μ 24 e) + μ 8 e ≤ X 4 t → K (some (.inl 1)) μ := fun q => h1 (by
    unfold f_fit
    rw [e4, e3, e10, e11, e51, decide_eq_true q.1, decide_eq_true q.2.1, decide_eq_true q.2.2]; rfl)
  have h0 : ¬ (zand (zshr (μ 20 2) e) 1 = 0 ∧ X 5 t ≤ μ 7 e ∧ (if μ 24 e = -1 then μ 20 1 else μ 24 e) + μ 8 e ≤ X 4 t) → K (some (.inl 0)) μ := fun q => h0 (by
    unfold f_fit
    rw [e4, e3, e10, e11, e51]
    by_cases a : zand (zshr (μ 20 2) e) 1 = 0
    · by_cases b : X 5 t ≤ μ 7 e
      · by_cases c : (if μ 24 e = -1 then μ 20 1 else μ 24 e) + μ 8 e ≤ X 4 t
        · exact absurd ⟨a, b, c⟩ q
        · simp [c]
      · simp [b]
    · simp [a])
  have fin : ∀ u : Int, u = (if μ 24 e = -1 then μ 20 1 else μ 24 e) → -1 ≤ u ∧ u ≤ 400000 → zT g d mX8_suits K 32 [some (.inr (.inr ((0, 8), 78))), some (.inl e), some (.inl t), none] [.inl u] μ := by
    intro u hu hb
    rw [← hu] at h1 h0
    refine sX8_suits_32 ⟨by omega, c_isDead (fun q => zb1 (h0 (fun hh => q hh.1))) (fun q => zb0 ⟨he, by omega, ?_⟩)⟩
    rw [ex.1, ex.2.1, zwi (x := X 4 t - u) (by omega) (by omega)]
    exact ⟨fun q2 => h0 (by omega), fun q2 => ⟨fun q3 => h0 (by omega), fun q3 => h1 ⟨q, q2, by omega⟩⟩⟩
  refine sX8_suits ⟨he, fun q => fin _ (by rw [if_neg q]) (by omega), fun q => fin _ (by rw [if_pos q]) (by omega)⟩
theorem m_isFit (hW : y_W (vM μ co cn)) (hN : mN μ X) (hi : iN Y X) (he : 0 ≤ e ∧ e < μ 119 6) (ht : 0 ≤ t ∧ t < X 8 0) (h1 : f_fit (vM μ co cn) X e t = true → K (some (.inl 1)) μ) (h0 : f_fit (vM μ co cn) X e t = false → K (some (.inl 0)) μ) : zCall g d 252 [.inr (.inr ((0, 12), 119)), .inl e, .inl t] μ K := by
  have w1 := v_en hW he
  have w6 := v_env hW
  have w2 := v_tn hW
  have i8 := hi.1
  have e3 : vM μ co cn 3 e = μ 131 e := y_in he
  have e4 : vM μ co cn 4 e = μ 129 e := y_in (by omega)
  have e10 : vM μ co cn 10 e = μ 126 e := y_in (by omega)
  have e11 : vM μ co cn 11 e = μ 127 e := y_in (by omega)
  have e51 : vM μ co cn 5 1 = μ 119 15 := by simp [vM, y_cl]
  have ex := hN.2 t ht
  have ix := (hi.2.1 t ht).1
  have h1 : μ 129 e = 0 ∧ X 5 t ≤ μ 126 e ∧ (if μ 131 e = -1 then μ 119 15 else μ 131 e) + μ 127 e ≤ X 4 t → K (some (.inl 1)) μ := fun q => h1 (by
    unfold f_fit
    rw [e4, e3, e10, e11, e51, decide_eq_true q.1, decide_eq_true q.2.1, decide_eq_true q.2.2]; rfl)
  have h0 : ¬ (μ 129 e = 0 ∧ X 5 t ≤ μ 126 e ∧ (if μ 131 e = -1 then μ 119 15 else μ 131 e) + μ 127 e ≤ X 4 t) → K (some (.inl 0)) μ := fun q => h0 (by
    unfold f_fit
    rw [e4, e3, e10, e11, e51]
    by_cases a : μ 129 e = 0
    · by_cases b : X 5 t ≤ μ 126 e
      · by_cases c : (if μ 131 e = -1 then μ 119 15 else μ 131 e) + μ 127 e ≤ X 4 t
        · exact absurd ⟨a, b, c⟩ q
        · simp [c]
      · simp [b]
    · simp [a])
  refine sX12_isFit ⟨by omega, fun q => h0 (fun hh => q hh.1), fun q => ⟨by omega, ?_⟩⟩
  rw [ex.1, ex.2.1, zwi (x := μ 131 e + μ 127 e) (by omega) (by omega), zwi (x := μ 119 15 + μ 127 e) (by omega) (by omega)]
  refine ⟨fun q2 => h0 (by omega), fun q2 => ⟨fun q3 => ?_, fun q3 => ?_⟩⟩
  · rw [if_neg q3] at h1 h0
    exact ⟨fun q4 => h0 (by omega), fun q4 => h1 (by omega)⟩
  · rw [if_pos q3] at h1 h0
    exact ⟨fun q4 => h0 (by omega), fun q4 => h1 (by omega)⟩
def o_fits (S : zS) (e t : Int) : Int × zS := (if (0 ≤ e ∧ e < S.1 13 3) ∧ 0 ≤ t ∧ t < zX S 8 0 then zB (f_fit S.1 (zX S) e t) else -1, S)
theorem C_fits (hd : 3 ≤ d) (hC : cS μ S) (hI : iS n S) (h : ∀ μ', zEc μ' μ → cS μ' (o_fits S e t).2 → K (some (.inl (o_fits S e t).1)) μ') : zCall g d 143 [.inr (.inr ((0, 11), 0)), .inl e, .inl t] μ K := by
  have w := hI.env
  have ev := hC.env
  have hN : cN μ (zX S) := hC.2.2.2.2.2.1
  have hi : iN S.1 (zX S) := hI.2.2.2.2.2.2.1
  have h := h μ (zEc.refl μ) hC
  unfold o_fits at h
  rw [← ev.2.2.2.1, ← hN.1] at h
  refine sX11_fits ⟨by omega, c_has (fun q => zb1 (c_hasT (fun q2 => zb1 (c_suits (by omega) (hC.W hI) hN hi (by omega) (by rw [← hN.1]; exact q2) (fun q3 => zb1 ?_) (fun q3 => zb0 ?_))) (fun q2 => zb0 ?_))) (fun q => zb0 ?_)⟩
  · rw [hC.1.1] at q3
    simp only [if_pos (And.intro q q2), q3] at h; exact h
  · rw [hC.1.1] at q3
    simp only [if_pos (And.intro q q2), q3] at h; exact h
  · simp only [if_neg (fun hh : _ ∧ _ => q2 hh.2)] at h; exact h
  · simp only [if_neg (fun hh : _ ∧ _ => q hh.1)] at h; exact h
theorem M_fits (hd : 3 ≤ d) (hC : mS μ S) (hI : iS n S) (h : ∀ μ', zEd μ' μ → mS μ' (o_fits S e t).2 → K (some (.inl (o_fits S e t).1)) μ') : zCall g d 253 [.inr (.inr ((0, 12), 119)), .inl e, .inl t] μ K := by
  have w := hI.env
  have hC0 : mS (zU μ 119 33 0) S := hC.thr
  have hE : zEd (zU μ 119 33 0) μ := (zEd.refl μ).u (by omega)
  refine sX12_fits ⟨by omega, ?_⟩
  generalize zU μ 119 33 0 = N at *
  have ev := hC0.env
  have hN : mN N (zX S) := hC0.2.2.2.2.2.1
  have hi : iN S.1 (zX S) := hI.2.2.2.2.2.2.1
  have i8 := hi.1
  have h := h N hE hC0
  have n1 := hN.1
  unfold o_fits at h
  rw [← ev.2.2.2.1, ← hN.1] at h
  refine m_isEngine (by omega) (by omega) (fun q => zb1 (m_isTrain (by omega) (by omega) (fun q2 => zb1 (m_isFit (co := S.1 14) (cn := S.1 15 0) (hC0.W hI) hN hi (by omega) (by rw [← hN.1]; exact q2) (fun q3 => zb1 ?_) (fun q3 => zb0 ?_))) (fun q2 => zb0 ?_))) (fun q => zb0 ?_)
  · rw [hC0.1.1] at q3
    simp only [if_pos (And.intro q q2), q3] at h; exact h
  · rw [hC0.1.1] at q3
    simp only [if_pos (And.intro q q2), q3] at h; exact h
  · simp only [if_neg (fun hh : _ ∧ _ => q2 hh.2)] at h; exact h
  · simp only [if_neg (fun hh : _ ∧ _ => q hh.1)] at h; exact h
def o_plan (S : zS) (t e : Int) : Int × zS := if (0 ≤ t ∧ t < zX S 8 0) ∧ (e = -1 ∨ ((0 ≤ e ∧ e < S.1 13 3) ∧ (f_tof (zX S) e = -1 ∨ f_tof (zX S) e = t))) then (1, sX S (zU (zX S) 7 t e)) else (0, S)
theorem C_plan (hd : 3 ≤ d) (hC : cS μ S) (hI : iS n S) (h : ∀ μ', zEc μ' μ → cS μ' (o_plan S t e).2 → K (some (.inl (o_plan S t e).1)) μ') : zCall g d 142 [.inr (.inr ((0, 11), 0)), .inl t, .inl e] μ K := by
  have w := hI.env
  have ev := hC.env
  have hN : cN μ (zX S) := hC.2.2.2.2.2.1
  have hi : iN S.1 (zX S) := hI.2.2.2.2.2.2.1
  have i8 := hi.1
  have n1 := hN.1
  have no : ¬ ((0 ≤ t ∧ t < zX S 8 0) ∧ (e = -1 ∨ ((0 ≤ e ∧ e < S.1 13 3) ∧ (f_tof (zX S) e = -1 ∨ f_tof (zX S) e = t)))) → K (some (.inl 0)) μ := by
    intro q
    unfold o_plan at h
    rw [if_neg q] at h
    exact h μ (zEc.refl μ) hC
  have yes : ((0 ≤ t ∧ t < zX S 8 0) ∧ (e = -1 ∨ ((0 ≤ e ∧ e < S.1 13 3) ∧ (f_tof (zX S) e = -1 ∨ f_tof (zX S) e = t)))) → K (some (.inl 1)) (zU μ 82 t e) := by
    intro q
    unfold o_plan at h
    rw [if_pos q] at h
    refine h _ ((zEc.refl μ).u (by omega)) (hC.tr (fun j hj _ => zU_off j (by omega)) ?_ (fun k hk => zU_off k (by omega)) (by rw [zU_off 8 (by omega)]))
    refine ⟨by rw [zU_off 78 (by omega), zU_off 8 (by omega)]; exact hN.1, fun i hi => ?_, fun i hi => ?_, ?_⟩
    · rw [zU_off 8 (by omega)] at hi
      rw [zU_off 79 (by omega), zU_off 80 (by omega), zU_off 81 (by omega), zU_off 4 (by omega), zU_off 5 (by omega), zU_off 6 (by omega)]
      exact hN.2.1 i hi
    · by_cases q2 : i = t
      · subst q2; rw [zU_eq, zU_eq]
      · rw [zU_ne (by omega), zU_ne (by omega)]; exact hN.2.2.1 i hi
    · rw [zU_off 83 (by omega), zU_off 4 (by omega), zU_off 8 (by omega)]; exact hN.2.2.2
  refine sX11_plan ⟨by omega, c_hasT (fun q => zb1 ⟨fun q2 => ⟨by omega, yes ⟨by omega, Or.inl q2⟩⟩, fun q2 => c_has (fun q3 => zb1 (c_trainOf hN i8 (zi ⟨fun q4 => ⟨by omega, yes ⟨by omega, Or.inr ⟨by omega, Or.inl q4⟩⟩⟩, fun q4 => ⟨fun q5 => ⟨by omega, yes ⟨by omega, Or.inr ⟨by omega, Or.inr q5⟩⟩⟩, fun q5 => no ?_⟩⟩))) (fun q3 => zb0 (no (by omega)))⟩) (fun q => zb0 (no (by omega)))⟩
  omega
theorem M_plan (hd : 3 ≤ d) (hC : mS μ S) (hI : iS n S) (h : ∀ μ', zEd μ' μ → mS μ' (o_plan S t e).2 → K (some (.inl (o_plan S t e).1)) μ') : zCall g d 251 [.inr (.inr ((0, 12), 119)), .inl t, .inl e] μ K := by
  have w := hI.env
  have hC0 : mS (zU μ 119 33 0) S := hC.thr
  have hE : zEd (zU μ 119 33 0) μ := (zEd.refl μ).u (by omega)
  refine sX12_plan ⟨by omega, ?_⟩
  generalize zU μ 119 33 0 = N at *
  have ev := hC0.env
  have hN : mN N (zX S) := hC0.2.2.2.2.2.1
  have hi : iN S.1 (zX S) := hI.2.2.2.2.2.2.1
  have i8 := hi.1
  have n1 := hN.1
  have no : ¬ ((0 ≤ t ∧ t < zX S 8 0) ∧ (e = -1 ∨ ((0 ≤ e ∧ e < S.1 13 3) ∧ (f_tof (zX S) e = -1 ∨ f_tof (zX S) e = t)))) → K (some (.inl 0)) N := by
    intro q
    unfold o_plan at h
    rw [if_neg q] at h
    exact h N hE hC0
  have yes : ((0 ≤ t ∧ t < zX S 8 0) ∧ (e = -1 ∨ ((0 ≤ e ∧ e < S.1 13 3) ∧ (f_tof (zX S) e = -1 ∨ f_tof (zX S) e = t)))) → K (some (.inl 1)) (zU N 135 t e) := by
    intro q
    unfold o_plan at h
    rw [if_pos q] at h
    refine h _ (hE.u (by omega)) (hC0.tr (fun j hj _ => zU_off j (by omega)) (fun i _ _ => zU_ne (by omega)) ?_ (fun k hk => zU_off k (by omega)) (by rw [zU_off 8 (by omega)]))
    refine ⟨by rw [zU_off 119 (by omega), zU_off 8 (by omega)]; exact hN.1, fun i hi => ?_⟩
    rw [zU_off 8 (by omega)] at hi
    rw [zU_off 132 (by omega), zU_off 133 (by omega), zU_off 134 (by omega), zU_off 4 (by omega), zU_off 5 (by omega), zU_off 6 (by omega)]
    have := hN.2 i hi
    refine ⟨this.1, this.2.1, this.2.2.1, ?_⟩
    by_cases q2 : i = t
    · subst q2; rw [zU_eq, zU_eq]
    · rw [zU_ne (by omega), zU_ne (by omega)]; exact this.2.2.2
  refine m_isTrain (by omega) (by omega) (fun q => zb1 ⟨fun q2 => ⟨by omega, yes ⟨by omega, Or.inl q2⟩⟩, fun q2 => m_isEngine (by omega) (by omega) (fun q3 => zb1 (m_trainOf hN i8 (zi ⟨fun q4 => ⟨by omega, yes ⟨by omega, Or.inr ⟨by omega, Or.inl q4⟩⟩⟩, fun q4 => m_trainOf hN i8 (zi ⟨fun q5 => ⟨by omega, yes ⟨by omega, Or.inr ⟨by omega, Or.inr q5⟩⟩⟩, fun q5 => no ?_⟩)⟩))) (fun q3 => zb0 (no (by omega)))⟩) (fun q => zb0 (no (by omega)))
  omega
/-- an engine planned for a train stands behind one that goes later -/
def f_bad (Y X : zM) (t : Int) : Bool := decide (¬ X 7 t = -1) && (decide (¬ f_ahead Y (X 7 t) = -1) && (decide (f_tof X (f_ahead Y (X 7 t)) = -1) || decide (X 4 t < X 4 (f_tof X (f_ahead Y (X 7 t))))))
def f_wr (Y X : zM) : Nat → Int
  | 0 => 0
  | t + 1 => if f_bad Y X (t : Int) = true then zor (f_wr Y X t) (zshl 1 (X 7 (t : Int))) else f_wr Y X t
def o_wrong (S : zS) : Int × zS := (f_wr S.1 (zX S) (zX S 8 0).toNat, S)
theorem C_wrong (hd : 4 ≤ d) (hC : cS μ S) (hI : iS n S) (h : ∀ μ', zEc μ' μ → cS μ' (o_wrong S).2 → K (some (.inl (o_wrong S).1)) μ') : zCall g d 147 [.inr (.inr ((0, 11), 0))] μ K := by
  have w := hI.env
  have ev := hC.env
  have hN : cN μ (zX S) := hC.2.2.2.2.2.1
  have hi : iN S.1 (zX S) := hI.2.2.2.2.2.2.1
  have i8 := hi.1
  have n1 := hN.1
  have h := h μ (zEc.refl μ) hC
  refine sX11_wrong ⟨by omega, sX8_badlyBehind ?_⟩
  obtain ⟨F, hF⟩ : ∃ F, f_wr S.1 (zX S) = F := ⟨_, rfl⟩
  have hF0 : F 0 = 0 := by rw [← hF]; rfl
  have hFs : ∀ i : Nat, F (i + 1) = if f_bad S.1 (zX S) (i : Int) = true then zor (F i) (zshl 1 (zX S 7 (i : Int))) else F i := by intro i; rw [← hF]; rfl
  unfold o_wrong at h
  rw [hF] at h
  have loop : ∀ (k i : Nat), (i : Int) + k = zX S 8 0 → zT g (d - 1) mX8_badlyBehind (zIi fun r2 μ1 => K (some (.inl r2)) μ1) 4 [some (.inr (.inr ((0, 8), 78))), some (.inl (F i)), some (.inl (i : Int)), none, none, none] [] μ := by
    intro k
    induction k with
    | zero =>
      intro i hi
      obtain rfl : i = (zX S 8 0).toNat := by omega
      exact sX8_badlyBehind_4 ⟨fun _ => zi h, fun q => by omega⟩
    | succ k ih =>
      intro i hi0
      have e7 := hN.2.2.1 (i : Int) (by omega)
      have i7 := (hi.2.1 (i : Int) (by omega)).2
      have nx := ih (i + 1) (by omega)
      rw [hFs i] at nx
      have fin : ∀ u : Int, u = (if zX S 7 (i : Int) = -1 then -1 else f_ahead S.1 (zX S 7 (i : Int))) → zT g (d - 1) mX8_badlyBehind (zIi fun r2 μ1 => K (some (.inl r2)) μ1) 36 [some (.inr (.inr ((0, 8), 78))), some (.inl (F i)), some (.inl (i : Int)), some (.inl (zX S 7 (i : Int))), none, none] [.inl u] μ := by
        intro u hu
        refine sX8_badlyBehind_36 ⟨fun q => ?_, fun q => ?_⟩
        · rw [if_neg (by unfold f_bad; by_cases a : zX S 7 (i : Int) = -1 <;> simp_all)] at nx
          rw [zw_suc (by omega)]
          exact nx
        · have a : ¬ zX S 7 (i : Int) = -1 := fun a => q (by rw [hu, if_pos a])
          rw [if_neg a] at hu
          subst hu
          have fb := f_ahead_b hI.W (e := zX S 7 (i : Int)) (by omega) q
          refine ⟨by omega, c_trainOf hN i8 (zi ⟨fun q2 => ?_, fun q2 => ?_⟩)⟩
          · rw [if_pos (by simp [f_bad, a, q, q2])] at nx
            rw [zw_suc (by omega)]
            exact nx
          · have tb := zsr_b (zX S 7) (f_ahead S.1 (zX S 7 (i : Int))) (zX S 8 0).toNat 0
            have tb : 0 ≤ f_tof (zX S) (f_ahead S.1 (zX S 7 (i : Int))) ∧ f_tof (zX S) (f_ahead S.1 (zX S 7 (i : Int))) < zX S 8 0 := by
              unfold f_tof at q2 ⊢
              rcases tb with ⟨t1, _⟩ | ⟨t1, t2, _⟩
              · exact absurd t1 q2
              · omega
            rw [(hN.2.1 _ tb).1, (hN.2.1 (i : Int) (by omega)).1]
            refine ⟨by omega, by omega, fun q3 => ?_, fun q3 => ?_⟩
            · rw [if_neg (by simp [f_bad, a, q, q2, q3])] at nx
              rw [zw_suc (by omega)]
              exact nx
            · rw [if_pos (by simp [f_bad, a, q, q3])] at nx
              rw [zw_suc (by omega)]
              exact nx
      refine sX8_badlyBehind_4 ⟨fun q => by omega, fun q => ⟨by omega, fun q2 => ?_, fun q2 => ?_⟩⟩
      · rw [e7] at q2 ⊢
        refine ⟨by omega, c_inFrontOf (s := 20) (by omega) (by omega) ?_ (zi ?_)⟩
        · have := hI.W.2.2.2 (zX S 7 (i : Int)) (by omega)
          rw [(hC.en (by omega)).1]
          omega
        · rw [hC.1.1]
          exact fin _ (by rw [if_neg q2])
      · rw [e7] at q2 ⊢
        exact fin _ (by rw [if_pos q2])
  have := loop (zX S 8 0).toNat 0 (by omega)
  rw [hF0] at this
  exact this
theorem M_wrong (hd : 4 ≤ d) (hC : mS μ S) (hI : iS n S) (h : ∀ μ', zEd μ' μ → mS μ' (o_wrong S).2 → K (some (.inl (o_wrong S).1)) μ') : zCall g d 260 [.inr (.inr ((0, 12), 119))] μ K := by
  have w := hI.env
  have hC0 : mS (zU μ 119 33 0) S := hC.thr
  have hE : zEd (zU μ 119 33 0) μ := (zEd.refl μ).u (by omega)
  refine sX12_wrong ?_
  generalize zU μ 119 33 0 = N at *
  have ev := hC0.env
  have hN : mN N (zX S) := hC0.2.2.2.2.2.1
  have hi : iN S.1 (zX S) := hI.2.2.2.2.2.2.1
  have i8 := hi.1
  have n1 := hN.1
  have h := h N hE hC0
  obtain ⟨F, hF⟩ : ∃ F, f_wr S.1 (zX S) = F := ⟨_, rfl⟩
  have hF0 : F 0 = 0 := by rw [← hF]; rfl
  have hFs : ∀ i : Nat, F (i + 1) = if f_bad S.1 (zX S) (i : Int) = true then zor (F i) (zshl 1 (zX S 7 (i : Int))) else F i := by intro i; rw [← hF]; rfl
  unfold o_wrong at h
  rw [hF] at h
  have loop : ∀ (k i : Nat), (i : Int) + k = zX S 8 0 → zT g d mX12_wrong K 9 [some (.inr (.inr ((0, 12), 119))), some (.inl (F i)), some (.inl (i : Int)), none, none] [] N := by
    intro k
    induction k with
    | zero =>
      intro i hi
      obtain rfl : i = (zX S 8 0).toNat := by omega
      exact sX12_wrong_9 ⟨fun _ => h, fun q => by omega⟩
    | succ k ih =>
      intro i hi0
      have e7 := (hN.2 (i : Int) (by omega)).2.2.2
      have i7 := (hi.2.1 (i : Int) (by omega)).2
      have nx := ih (i + 1) (by omega)
      rw [hFs i] at nx
      have fin : ∀ u : Int, u = (if zX S 7 (i : Int) = -1 then -1 else f_ahead S.1 (zX S 7 (i : Int))) → zT g d mX12_wrong K 38 [some (.inr (.inr ((0, 12), 119))), some (.inl (F i)), some (.inl (i : Int)), some (.inl (zX S 7 (i : Int))), none] [.inl u] N := by
        intro u hu
        refine sX12_wrong_38 ⟨fun q => ?_, fun q => ?_⟩
        · rw [if_neg (by unfold f_bad; by_cases a : zX S 7 (i : Int) = -1 <;> simp_all)] at nx
          rw [zw_suc (by omega)]
          exact nx
        · have a : ¬ zX S 7 (i : Int) = -1 := fun a => q (by rw [hu, if_pos a])
          rw [if_neg a] at hu
          subst hu
          have fb := f_ahead_b hI.W (e := zX S 7 (i : Int)) (by omega) q
          refine ⟨by omega, m_trainOf hN i8 (zi ⟨fun q2 => ?_, fun q2 => m_trainOf hN i8 (zi ?_)⟩)⟩
          · rw [if_pos (by simp [f_bad, a, q, q2])] at nx
            rw [zw_suc (by omega)]
            exact nx
          · have tb := zsr_b (zX S 7) (f_ahead S.1 (zX S 7 (i : Int))) (zX S 8 0).toNat 0
            have tb : 0 ≤ f_tof (zX S) (f_ahead S.1 (zX S 7 (i : Int))) ∧ f_tof (zX S) (f_ahead S.1 (zX S 7 (i : Int))) < zX S 8 0 := by
              unfold f_tof at q2 ⊢
              rcases tb with ⟨t1, _⟩ | ⟨t1, t2, _⟩
              · exact absurd t1 q2
              · omega
            rw [(hN.2 _ tb).1, (hN.2 (i : Int) (by omega)).1]
            refine ⟨by omega, by omega, fun q3 => ?_, fun q3 => ?_⟩
            · rw [if_neg (by simp [f_bad, a, q, q2, q3])] at nx
              rw [zw_suc (by omega)]
              exact nx
            · rw [if_pos (by simp [f_bad, a, q, q3])] at nx
              rw [zw_suc (by omega)]
              exact nx
      refine sX12_wrong_9 ⟨fun q => by omega, fun q => ⟨by omega, fun q2 => ?_, fun q2 => ?_⟩⟩
      · rw [e7] at q2 ⊢
        refine ⟨by omega, m_ahead (co := S.1 14) (cn := S.1 15 0) (by omega) (by omega) ?_ (zi ?_)⟩
        · have := hI.W.2.2.2 (zX S 7 (i : Int)) (by omega)
          rw [(hC0.en (by omega)).1]
          omega
        · rw [hC0.1.1]
          exact fin _ (by rw [if_neg q2])
      · rw [e7] at q2 ⊢
        exact fin _ (by rw [if_pos q2])
  have := loop (zX S 8 0).toNat 0 (by omega)
  rw [hF0] at this
  exact this
end
