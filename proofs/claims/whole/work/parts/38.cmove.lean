-- needs 20.walks 30 31 32 34 35 36 37 21.s03 21.s04
/-! the class's yard: who is taken, moves -/
theorem r_dep_eq {co co' : Int → Int} {n : Nat} (hc : ∀ k : Nat, k < n → co k = co' k) : ∀ i : Nat, i ≤ n → r_dep co i = r_dep co' i
  | 0, _ => rfl
  | i + 1, h => by
    simp only [r_dep, ← hc i (by omega), r_dep_eq hc i (by omega)]
theorem r_ok_eq {co co' : Int → Int} {n : Nat} (hc : ∀ k : Nat, k < n → co k = co' k) (h : r_ok co n) : r_ok co' n := by
  obtain ⟨h1, h2, h3⟩ := h
  refine ⟨h1, (r_dep_eq hc n (Nat.le_refl _)) ▸ h2, fun i hi => ?_⟩
  have := h3 i hi
  rw [hc i hi, r_dep_eq hc i (by omega)] at this
  exact this
/-- all cells but two are as they were -/
def zEq16 (μ' μ : zM) : Prop := ∀ j, ¬ (j = 16 ∨ j = 17) → μ' j = μ j
theorem zEq16.refl (μ : zM) : zEq16 μ μ := fun _ _ => rfl
theorem zEq16.trans {a b c : zM} (h : zEq16 a b) (h' : zEq16 b c) : zEq16 a c := fun j hj => (h j hj).trans (h' j hj)
theorem zEq16.U {a b : zM} {j : Nat} {i v : Int} (h : zEq16 a b) (hj : j = 16 ∨ j = 17) : zEq16 (zU a j i v) b := fun k hk => by rw [zU_off k (by omega)]; exact h k hk
theorem zEq16.rl {a b : zM} (h : zEq16 a b) (hr : zrl b) : zrl a := zrl_same hr (h 12 (by omega))
theorem zEq16.v {a b : zM} {s : Nat} (h : zEq16 a b) (hr : zrl b) (hs : 20 ≤ s) : vC a s = vC b s := vC_same hr (fun j _ _ => h j (by omega)) (fun j _ _ => h j (by omega))
section
variable {g : zG} {d : Nat} {K : Option zV → zM → Prop} {μ : zM} {s o : Nat} {e a b x y : Int}
theorem w_dead (h : y_W (vC μ s)) (he : 0 ≤ e ∧ e < 12) : zand (zshr (μ s 2) e) 1 = 0 ∨ zand (zshr (μ s 2) e) 1 = 1 := by
  have h1 := (h.2.2.2 e he).1.2.2.2.2.2.2.2
  have e7 : vC μ s 4 e = zand (zshr (μ s 2) e) 1 := y_in (f := fun e => zand (zshr (μ s 2) e) 1) he
  rw [e7] at h1
  exact h1
theorem c_ruleLets {bb : Bool} (hd : 1 ≤ d) (hs : 20 ≤ s) (hr : zrl μ) (hW : y_W (vC μ s)) (hR : y_R (vC μ s)) (he : 0 ≤ e ∧ e < 12) (hx : 0 ≤ x ∧ x < 23) (hb : b = zB bb)
    (h1 : ∀ μ', zEq16 μ' μ → f_let (vC μ s) x e bb = true → K (some (.inl 1)) μ') (h0 : ∀ μ', zEq16 μ' μ → f_let (vC μ s) x e bb = false → K (some (.inl 0)) μ') : zCall g d 101 [.inr (.inr ((0, 10), 25)), .inr (.inr ((0, 7), s)), .inl x, .inl e, .inl b] μ K := by
  have y15 : vC μ s 15 0 = μ 12 3 := by simp only [vC]
  have w1 := w_env hW
  have w2 := w_en hW he
  have w3 := w_tn hW
  have w4 := (w_st hW hx).1
  have w5 := w_dead hW he
  have v9 : vC μ s 9 e = μ 6 e := y_in he
  have v10 : vC μ s 10 e = μ 7 e := y_in he
  have v12 : vC μ s 12 e = μ 9 e := y_in he
  have v4 : vC μ s 4 e = zand (zshr (μ s 2) e) 1 := y_in (f := fun e => zand (zshr (μ s 2) e) 1) he
  have v51 : vC μ s 5 1 = μ s 1 := by simp [vC, y_cl]
  by_cases q : μ 12 3 = 0
  · exact sX10_ruleLets ⟨fun q2 => absurd q q2, fun _ => h1 μ (zEq16.refl μ) (by simp [f_let, y15, q])⟩
  obtain ⟨n, hn, hv⟩ : ∃ n : Nat, μ 12 3 = (n : Int) ∧ r_ok (vC μ s 14) n := by
    unfold y_R at hR
    rw [y15] at hR
    exact hR.resolve_left q
  have key4 : ∀ M, zEq16 M μ → (∀ k, 0 ≤ k ∧ k < 8 → M 17 k = f_lets (vC μ s) x e bb k) → zCall g (d - 1) 56 [.inr (.inr ((0, 6), 12))] M (zIi fun r3 μ2 => (r3 = 0 → K (some (.inl 0)) μ2) ∧ (¬ r3 = 0 → K (some (.inl 1)) μ2)) := by
    intro M hM hL
    obtain ⟨jc, hj, hc⟩ : ∃ jc : Nat, (jc = 14 ∨ jc = 15) ∧ μ 12 2 = (jc : Int) := by
      rcases hr with hr | hr
      · exact ⟨14, Or.inl rfl, hr⟩
      · exact ⟨15, Or.inr rfl, hr⟩
    have eM : M jc = μ jc := hM jc (by omega)
    have eco : ∀ k : Nat, k < n → vC μ s 14 k = M jc k := by
      intro k hk
      simp only [vC]
      rw [hn, hc, y_in (by omega), show ((jc : Int)).toNat = jc from rfl, eM]
    have hv2 := r_ok_eq eco hv
    refine c_value hj (by rw [hM 12 (by omega)]; exact hc) (by rw [hM 12 (by omega)]; exact hn) hv2 (fun μ' hμ => ?_)
    rw [← r_val_eq (S := fun _ => 0) hv (fun k hk => (hL k hk).symm) eco]
    refine zi ?_
    have hE : zEq16 μ' μ := fun j hj => by rw [hμ j (by omega), hM j hj]
    refine ⟨fun q3 => h0 μ' hE ?_, fun q3 => h1 μ' hE ?_⟩
    · simp only [f_let, y15, hn, Int.toNat_natCast]
      rw [show r_val (f_lets (vC μ s) x e bb) (vC μ s 14) n = 0 from q3]
      simp [← hn, q]
    · simp only [f_let, y15, hn, Int.toNat_natCast]
      rw [decide_eq_true (p := ¬ r_val (f_lets (vC μ s) x e bb) (vC μ s 14) n = 0) q3, Bool.or_true]
  have key3 : ∀ M v6, zEq16 M μ → (∀ k, 0 ≤ k ∧ k < 6 → M 17 k = f_lets (vC μ s) x e bb k) → v6 = zB bb → zT g d mX10_ruleLets K 126 [some (.inr (.inr ((0, 10), 25))), none, some (.inl x), none, some (.inl b), some (.inr (.inr ((1, 8), 17)))] [.inl v6, .inl 6, .inr (.inr ((1, 8), 17))] M := by
    intro M v6 hM hL h6
    refine sX10_ruleLets_126 ⟨by omega, by omega, ?_⟩
    have e3 : zU M 17 6 v6 3 x = μ 3 x := by rw [zU_ne (by omega), hM 3 (by omega)]
    have fin : ∀ v7, v7 = zB (f_hood (vC μ s) x bb) → zCall g (d - 1) 56 [.inr (.inr ((0, 6), 12))] (zU (zU M 17 6 v6) 17 7 v7) (zIi fun r3 μ2 => (r3 = 0 → K (some (.inl 0)) μ2) ∧ (¬ r3 = 0 → K (some (.inl 1)) μ2)) := by
      intro v7 h7
      refine key4 _ ((hM.U (Or.inr rfl)).U (Or.inr rfl)) (fun k hk => ?_)
      by_cases k7 : k = 7
      · subst k7
        rw [zU_eq, h7]
        rfl
      · rw [zU_ne (by omega)]
        by_cases k6 : k = 6
        · subst k6
          rw [zU_eq, h6]
          rfl
        · rw [zU_ne (by omega), hL k (by omega)]
    have hh : f_hood (vC μ s) x bb = decide (b = 1 ∧ μ 3 x / 2 % 2 = 1 ∨ b = 0 ∧ μ 3 x % 2 = 1) := by
      cases bb
      · rw [f_hood_f hx, hb]
        simp [zB]
      · rw [f_hood_t hx, hb]
        simp [zB]
    refine c_isHood hx (by rw [e3]; omega) (by rw [hb]; exact zB_01 bb) (fun q3 => zb1 ?_) (fun q3 => zb0 ?_)
    · exact fin 1 (by rw [hh, decide_eq_true (by rw [e3] at q3; exact q3)]; rfl)
    · exact fin 0 (by rw [hh, decide_eq_false (by rw [e3] at q3; exact q3)]; rfl)
  have key2 : ∀ M v3, zEq16 M μ → (∀ k, 0 ≤ k ∧ k < 3 → M 17 k = f_lets (vC μ s) x e bb k) → v3 = vC μ s 4 e → zT g d mX10_ruleLets K 84 [some (.inr (.inr ((0, 10), 25))), some (.inr (.inr ((0, 7), s))), some (.inl x), some (.inl e), some (.inl b), some (.inr (.inr ((1, 8), 17)))] [.inl v3, .inl 3, .inr (.inr ((1, 8), 17))] M := by
    intro M v3 hM hL h3
    have hM4 : zEq16 (zU M 17 3 v3) μ := hM.U (Or.inr rfl)
    have e1 : zU M 17 3 v3 s 1 = μ s 1 := by rw [hM4 s (by omega)]
    have fin : ∀ v4 v6, v4 = zB (f_steam (vC μ s) e (vC μ s 5 1)) → v6 = zB bb → zT g d mX10_ruleLets K 126 [some (.inr (.inr ((0, 10), 25))), none, some (.inl x), none, some (.inl b), some (.inr (.inr ((1, 8), 17)))] [.inl v6, .inl 6, .inr (.inr ((1, 8), 17))] (zU (zU (zU M 17 3 v3) 17 4 v4) 17 5 x) := by
      intro v4 v6 h4 h6
      refine key3 _ _ ((hM4.U (Or.inr rfl)).U (Or.inr rfl)) (fun k hk => ?_) h6
      by_cases k5 : k = 5
      · subst k5; rw [zU_eq]; rfl
      · rw [zU_ne (by omega)]
        by_cases k4 : k = 4
        · subst k4; rw [zU_eq, h4]; rfl
        · rw [zU_ne (by omega)]
          by_cases k3 : k = 3
          · subst k3; rw [zU_eq, h3]; rfl
          · rw [zU_ne (by omega), hL k (by omega)]
    have b0 : b = 0 → (0 : Int) = zB bb := by intro q2; rw [← hb, q2]
    have b1 : ¬ b = 0 → (1 : Int) = zB bb := by
      intro q2
      rcases zB_01 bb with q3 | q3 <;> omega
    have evM := hM4.v hr hs
    refine sX10_ruleLets_84 ⟨by omega, by omega, ?_⟩
    rw [e1]
    refine c_inSteam (by rw [evM]; exact hW) he (by omega) (fun q3 => zb1 ⟨fun q2 => ?_, fun q2 => ?_⟩) (fun q3 => zb0 ⟨fun q2 => ?_, fun q2 => ?_⟩)
    · rw [evM, ← v51] at q3; exact fin 1 0 (by rw [q3]; rfl) (b0 q2)
    · rw [evM, ← v51] at q3; exact fin 1 1 (by rw [q3]; rfl) (b1 q2)
    · rw [evM, ← v51] at q3; exact fin 0 0 (by rw [q3]; rfl) (b0 q2)
    · rw [evM, ← v51] at q3; exact fin 0 1 (by rw [q3]; rfl) (b1 q2)
  have key1 : ∀ v2, v2 = μ 9 e → zCall g (d - 1) 59 [.inr (.inr ((0, 7), s)), .inl e] (zU (zU (zU μ 17 0 (μ 6 e)) 17 1 (μ 7 e)) 17 2 v2) (zBz (fun μ1 => zT g d mX10_ruleLets K 84 [some (.inr (.inr ((0, 10), 25))), some (.inr (.inr ((0, 7), s))), some (.inl x), some (.inl e), some (.inl b), some (.inr (.inr ((1, 8), 17)))] [.inl 1, .inl 3, .inr (.inr ((1, 8), 17))] μ1) (fun μ1 => zT g d mX10_ruleLets K 84 [some (.inr (.inr ((0, 10), 25))), some (.inr (.inr ((0, 7), s))), some (.inl x), some (.inl e), some (.inl b), some (.inr (.inr ((1, 8), 17)))] [.inl 0, .inl 3, .inr (.inr ((1, 8), 17))] μ1)) := by
    intro v2 h2
    have hM3 : zEq16 (zU (zU (zU μ 17 0 (μ 6 e)) 17 1 (μ 7 e)) 17 2 v2) μ := (((zEq16.refl μ).U (Or.inr rfl)).U (Or.inr rfl)).U (Or.inr rfl)
    have hL : ∀ k, 0 ≤ k ∧ k < 3 → zU (zU (zU μ 17 0 (μ 6 e)) 17 1 (μ 7 e)) 17 2 v2 17 k = f_lets (vC μ s) x e bb k := by
      intro k hk
      have : k = 0 ∨ k = 1 ∨ k = 2 := by omega
      rcases this with rfl | rfl | rfl
      · rw [zU_ne (by omega), zU_ne (by omega), zU_eq]; exact v9.symm
      · rw [zU_ne (by omega), zU_eq]; exact v10.symm
      · rw [zU_eq, h2]; exact v12.symm
    have es : zU (zU (zU μ 17 0 (μ 6 e)) 17 1 (μ 7 e)) 17 2 v2 s 2 = μ s 2 := by rw [hM3 s (by omega)]
    refine c_isDead (fun q3 => zb1 ?_) (fun q3 => zb0 ?_)
    · rw [es] at q3
      exact key2 _ _ hM3 hL (by rw [v4]; omega)
    · rw [es] at q3
      exact key2 _ _ hM3 hL (by rw [v4]; omega)
  refine sX10_ruleLets ⟨fun _ => ⟨he, fun q2 => ⟨by omega, key1 0 q2.symm⟩, fun q2 => ⟨by omega, key1 1 (by omega)⟩⟩, fun q2 => absurd q2 q⟩
theorem c_takesIt (hd : 2 ≤ d) (hs : 20 ≤ s) (hr : zrl μ) (hW : y_W (vC μ s)) (hR : y_R (vC μ s)) (he : 0 ≤ e ∧ e < 12) (hx : 0 ≤ x ∧ x < 23)
    (h1 : ∀ μ', zEq16 μ' μ → f_takes (vC μ s) x e = true → K (some (.inl 1)) μ') (h0 : ∀ μ', zEq16 μ' μ → f_takes (vC μ s) x e = false → K (some (.inl 0)) μ') : zCall g d 100 [.inr (.inr ((0, 10), 25)), .inr (.inr ((0, 7), s)), .inl x, .inl e] μ K := by
  have w2 := w_en hW he
  have w4 := w_st hW hx
  have w1 := w_env hW
  have v8 : vC μ s 8 x = μ 4 x := y_in hx
  have v1 : vC μ s 1 x = μ (s + 2) x := y_in hx
  have v0 : vC μ s 0 x = μ (s + 1) x := y_in hx
  have v9 : vC μ s 9 e = μ 6 e := y_in he
  have v6 : vC μ s 6 x = μ 2 x := y_in hx
  have hl : 0 ≤ f_len (vC μ s) x ∧ f_len (vC μ s) x ≤ 60 := by
    have s1 : ∀ e, 0 ≤ e ∧ e < 12 → 0 ≤ vC μ s 9 e ∧ vC μ s 9 e ≤ 30 := fun e he => by have := (hW.2.2.2 e he).1; omega
    unfold f_len
    rw [v0, v1]
    have a0 := s1 (μ (s + 1) x)
    have a1 := s1 (μ (s + 2) x)
    split <;> split <;> omega
  refine sX10_takesIt ⟨hx, fun q => ?_, fun q => ⟨fun q2 => ⟨by omega, ?_⟩, fun q2 => ?_⟩⟩
  · exact h0 μ (zEq16.refl μ) (by simp [f_takes, v8, q])
  · refine c_lengthIn hW hx (zi ⟨he, ?_⟩)
    rw [zwi (x := f_len (vC μ s) x + μ 6 e) (by omega) (by omega)]
    refine ⟨fun q3 => ⟨fun q4 => ?_, fun q4 => ?_⟩, fun q3 => ?_⟩
    · refine c_ruleLets (bb := false) (by omega) hs hr hW hR he hx rfl (fun μ' hE q5 => zb1 (h1 μ' hE ?_)) (fun μ' hE q5 => zb0 (h0 μ' hE ?_))
      · simp only [f_takes, v8, v1, v0, v9, v6, q, q2, q3]; simp [q4, q5]
      · simp only [f_takes, v8, v1, v0, v9, v6, q, q2, q3]; simp [q4, q5]
    · refine c_ruleLets (bb := true) (by omega) hs hr hW hR he hx rfl (fun μ' hE q5 => zb1 (h1 μ' hE ?_)) (fun μ' hE q5 => zb0 (h0 μ' hE ?_))
      · simp only [f_takes, v8, v1, v0, v9, v6, q, q2, q3]; simp [q4, q5]
      · simp only [f_takes, v8, v1, v0, v9, v6, q, q2, q3]; simp [q4, q5]
    · refine h0 μ (zEq16.refl μ) ?_
      have : ¬ f_len (vC μ s) x + vC μ s 9 e ≤ vC μ s 6 x := by rw [v9, v6]; omega
      simp [f_takes, this]
  · exact h0 μ (zEq16.refl μ) (by simp [f_takes, v1, q2])
theorem c_canStandAt (hd : 3 ≤ d) (hs : 20 ≤ s) (hr : zrl μ) (hW : y_W (vC μ s)) (hR : y_R (vC μ s)) (he : 0 ≤ e ∧ e < 12) (hx : 0 ≤ x ∧ x ≤ μ 1 0)
    (h1 : ∀ μ', zEq16 μ' μ → f_stand (vC μ s) e x = true → K (some (.inl 1)) μ') (h0 : ∀ μ', zEq16 μ' μ → f_stand (vC μ s) e x = false → K (some (.inl 0)) μ') : zCall g d 103 [.inr (.inr ((0, 10), 25)), .inr (.inr ((0, 7), s)), .inl e, .inl x] μ K := by
  have w1 := w_env hW
  have e13 : vC μ s 13 0 = μ 1 0 := by simp [vC, y_cl]
  refine sX10_canStandAt ⟨fun q => h1 μ (zEq16.refl μ) (by simp [f_stand, e13, q]), fun q => ⟨by omega, c_takesIt (by omega) hs hr hW hR he (by omega) (fun μ' hE q5 => zb1 (h1 μ' hE ?_)) (fun μ' hE q5 => zb0 (h0 μ' hE ?_))⟩⟩
  · simp [f_stand, q5]
  · simp [f_stand, q5, e13, q]
theorem c_canGoTo (hd : 4 ≤ d) (hs : 20 ≤ s) (hr : zrl μ) (hW : y_W (vC μ s)) (hR : y_R (vC μ s)) (he : 0 ≤ e ∧ e < 12) (hx : 0 ≤ x ∧ x ≤ μ 1 0)
    (h1 : ∀ μ', zEq16 μ' μ → f_can (vC μ s) e x = true → K (some (.inl 1)) μ') (h0 : ∀ μ', zEq16 μ' μ → f_can (vC μ s) e x = false → K (some (.inl 0)) μ') : zCall g d 104 [.inr (.inr ((0, 10), 25)), .inr (.inr ((0, 7), s)), .inl e, .inl x] μ K := by
  have w1 := w_env hW
  have w2 := w_en hW he
  refine sX10_canGoTo ⟨by omega, c_pointOf (by omega) he (zi ⟨fun q => h0 μ (zEq16.refl μ) (by simp [f_can, q]), fun q => ?_⟩)⟩
  refine c_inFrontOf (by omega) he (by omega) (zi ⟨fun q2 => h0 μ (zEq16.refl μ) (by simp [f_can, q2]), fun q2 => ?_⟩)
  refine c_canStandAt (by omega) hs hr hW hR he hx (fun μ' hE q5 => zb1 (h1 μ' hE ?_)) (fun μ' hE q5 => zb0 (h0 μ' hE ?_))
  · simp [f_can, q, q2, q5]
  · simp [f_can, q5]
theorem c_isNextHooded (hd : 1 ≤ d) (hW : y_W (vC μ s)) (hx : 0 ≤ x ∧ x < 23) (h1 : f_hood (vC μ s) x (decide (vC μ s 0 x = -1)) = true → K (some (.inl 1)) μ) (h0 : f_hood (vC μ s) x (decide (vC μ s 0 x = -1)) = false → K (some (.inl 0)) μ) : zCall g d 98 [.inr (.inr ((0, 10), 25)), .inr (.inr ((0, 7), s)), .inl x] μ K := by
  have w4 := (w_st hW hx).1
  have v0 : vC μ s 0 x = μ (s + 1) x := y_in hx
  rw [v0] at h1 h0
  refine sX10_isNextHooded ⟨hx, fun q => ⟨hd, ?_⟩, fun q => ⟨hd, ?_⟩⟩
  · rw [decide_eq_false q, f_hood_f hx] at h1 h0
    exact c_isHood hx (by omega) (Or.inl rfl) (fun q3 => zb1 (h1 (by simp; omega))) (fun q3 => zb0 (h0 (by simp; omega)))
  · rw [decide_eq_true q, f_hood_t hx] at h1 h0
    exact c_isHood hx (by omega) (Or.inr rfl) (fun q3 => zb1 (h1 (by simp; omega))) (fun q3 => zb0 (h0 (by simp; omega)))
theorem f_steps_b {n a b : Int} (hn : 0 ≤ n ∧ n ≤ 23) (ha : 0 ≤ a ∧ a ≤ n) (hb : 0 ≤ b ∧ b ≤ n) : 0 ≤ f_steps n a b ∧ f_steps n a b ≤ 12 := by unfold f_steps; omega
theorem f_min_b {Y : zM} (h : y_W Y) (ha : 0 ≤ a ∧ a ≤ Y 13 0) (hb : 0 ≤ b ∧ b ≤ Y 13 0) : 0 ≤ f_min Y a b ∧ f_min Y a b ≤ 234 := by
  have w := h.1
  have w2 := h.2.1
  have b1 := f_steps_b (n := Y 13 0) (a := Y 5 0) (b := a) (by omega) (by omega) ha
  have b2 := f_steps_b (n := Y 13 0) (a := a) (b := b) (by omega) ha hb
  unfold f_min
  generalize f_steps (Y 13 0) (Y 5 0) a = p at *
  generalize f_steps (Y 13 0) a b = q at *
  have b3 : 0 ≤ Y 13 1 * (p + q) ∧ Y 13 1 * (p + q) ≤ 9 * 24 := by
    constructor
    · exact Int.mul_nonneg (by omega) (by omega)
    · exact Int.mul_le_mul (by omega) (by omega) (by omega) (by omega)
  omega
theorem f_point_b {Y : zM} (h : y_W Y) (he : 0 ≤ e ∧ e < 12) : 0 ≤ f_point Y e ∧ f_point Y e ≤ Y 13 0 := by
  have w := h.1
  have w2 := (h.2.2.2 e he).2.1
  unfold f_point
  split <;> omega
/-- one is moved, in so many minutes -/
theorem c_shift {k : Int} (hd : 2 ≤ d) (hs : 20 ≤ s) (hr : zrl μ) (hW : y_W (vC μ s)) (he : 0 ≤ e ∧ e < 12) (hx : 0 ≤ x ∧ x ≤ μ 1 0) (hk : k = 1 ∨ k = 2)
    (h : ∀ μ', (∀ j, ¬ (s ≤ j ∧ j ≤ s + 3) → μ' j = μ j) → vC μ' s = f_bring (vC μ s) e x (k * f_min (vC μ s) (f_point (vC μ s) e) x) → K (some (.inl (k * f_min (vC μ s) (f_point (vC μ s) e) x))) μ') : zCall g d 105 [.inr (.inr ((0, 10), 25)), .inr (.inr ((0, 7), s)), .inl e, .inl x, .inl k] μ K := by
  have w1 := w_env hW
  have w2 := w_tn hW
  have e13 : vC μ s 13 0 = μ 1 0 := by simp [vC, y_cl]
  have e51 : vC μ s 5 1 = μ s 1 := by simp [vC, y_cl]
  have bp := f_point_b hW he
  have bm := f_min_b hW bp (b := x) (by omega)
  refine sX10_shift ⟨by omega, c_pointOf (by omega) he (zi (c_minutes (by omega) hW (by omega) hx (zi ?_)))⟩
  generalize hm : f_min (vC μ s) (f_point (vC μ s) e) x = m at *
  have hkm : zw (k * m) = k * m := by rcases hk with rfl | rfl <;> exact zwi (by omega) (by omega)
  have hkb : 0 ≤ k * m ∧ k * m ≤ 468 := by rcases hk with rfl | rfl <;> omega
  rw [hkm]
  generalize hkt : k * m = t at *
  have fin : ∀ M, (∀ j, ¬ (s + 1 ≤ j ∧ j ≤ s + 3) → M j = μ j) → vC M s = f_put (vC μ s) e x → K (some (.inl t)) (zU (zU M s 0 x) s 1 (zw (zU M s 0 x s 1 + t))) := by
    intro M hM hv
    have rM : zrl M := zrl_same hr (hM 12 (by omega))
    have e1 : zU M s 0 x s 1 = μ s 1 := by rw [zU_ne (by omega), hM s (by omega)]
    rw [e1, zwi (x := μ s 1 + t) (by omega) (by omega)]
    refine h _ (fun j hj => by rw [zU_off j (by omega), zU_off j (by omega), hM j (by omega)]) ?_
    rw [vU5 (zrl_U rM (by omega)) hs (Or.inr rfl), vU5 rM hs (Or.inl rfl), hv]
    unfold f_bring
    rw [e51]
  refine ⟨fun q => c_bring hs hr hW he (Or.inr (by omega)) (fun M hM hv => zn (fin M hM ?_)), fun q => c_bring hs hr hW he (Or.inl rfl) (fun M hM hv => zn (fin M hM ?_))⟩
  · rw [hv, if_neg (by omega)]
  · rw [hv, if_pos rfl, q]
end
