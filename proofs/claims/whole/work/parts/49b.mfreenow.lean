-- needs 20.walks 30 31 32 33 34 35 36 37 38 39 40 41 42 43 44 45 46 47 48 21.s06 21.s07 21.s08
/-! the reference frees one: the loop over places aside -/
section
variable {g : zG} {d : Nat} {K : Option zV → zM → Prop} {μ : zM} {co : Int → Int} {cn e a b x y p t : Int}
theorem m_freeNow (hd : 320 ≤ d) (hW : y_W (vM μ co cn)) (hR : zRu (μ 138) (μ 119 28) co cn) (he : 0 ≤ e ∧ e < μ 119 6) (hin : ¬ μ 130 e = -1) (hn : μ 119 15 ≤ 399000) (hh : 0 ≤ μ 119 42 ∧ μ 119 42 ≤ 248)
    (h1 : f_frees (vM μ co cn) e = true → ∀ μ', zEw μ' μ → vM μ' co cn = f_free (vM μ co cn) e → μ' 119 43 = f_to (vM μ co cn) e → μ' 119 44 = f_am (vM μ co cn) e → μ' 119 45 = f_om (vM μ co cn) e → μ' 119 42 = μ 119 42 + 4 * (f_mv (vM μ co cn) e).length → (∀ i, i < μ 119 42 → μ' 141 i = μ 141 i) → h_ok (μ' 141) (μ' 119 42) (f_mv (vM μ co cn) e) (f_free (vM μ co cn) e) (vM μ co cn) → K (some (.inl 1)) μ')
    (h0 : f_frees (vM μ co cn) e = false → ∀ μ', zEw μ' μ → vM μ' co cn = vM μ co cn → μ' 119 42 = μ 119 42 → μ' 141 = μ 141 → K (some (.inl 0)) μ') : zCall g d 216 [.inr (.inr ((0, 12), 119)), .inl e] μ K := by
  have w1 := v_env hW
  have w3 := v_tn hW
  have he' : 0 ≤ e ∧ e < 12 := by omega
  have w2 := v_en hW he
  have v2 : vM μ co cn 2 e = μ 130 e := y_in he
  have e13 : vM μ co cn 13 0 = μ 119 0 := by simp [vM]
  have e133 : vM μ co cn 13 3 = μ 119 6 := by simp only [vM]; rfl
  have e50 : vM μ co cn 5 0 = μ 119 14 := by simp [vM, y_cl]
  have e51 : vM μ co cn 5 1 = μ 119 15 := by simp [vM, y_cl]
  generalize hY : vM μ co cn = Y at *
  have heY : 0 ≤ e ∧ e < Y 13 3 := by omega
  have hinY : ¬ Y 2 e = -1 := by rw [v2]; exact hin
  have hnY : Y 5 1 ≤ 399000 := by omega
  have evA : vM (zU (zU μ 119 43 (-1)) 119 44 0) co cn = Y := by rw [mUs (by omega), mUs (by omega), hY]
  have EA : zEw (zU (zU μ 119 43 (-1)) 119 44 0) μ := ((zEw.refl μ).s (by omega)).s (by omega)
  have aO : ∀ i, ¬ (i = 43 ∨ i = 44) → zU (zU μ 119 43 (-1)) 119 44 0 119 i = μ 119 i := fun i hi => by rw [zU_ne (by omega), zU_ne (by omega)]
  have a141 : zU (zU μ 119 43 (-1)) 119 44 0 141 = μ 141 := by rw [zU_off _ (by omega), zU_off _ (by omega)]
  have WA : y_W (vM (zU (zU μ 119 43 (-1)) 119 44 0) co cn) := by rw [evA]; exact hW
  have e6M : ∀ M, zEw M μ → M 119 0 = Y 13 0 ∧ M 119 6 = Y 13 3 := fun M hE => by rw [hE.2 0 (by omega), hE.2 6 (by omega)]; exact ⟨e13.symm, e133.symm⟩
  refine sX12_freeNow ⟨by omega, m_ahead (co := co) (cn := cn) (by omega) (by omega) (by omega) (zi ?_)⟩
  rw [hY]
  refine m_mayGo (co := co) (cn := cn) (by omega) WA (by rw [aO 6 (by omega)]; exact he) (fun qm => zb1 ⟨fun qa => ?_, fun qa => ?_⟩) (fun qm => zb0 ?_)
  · -- nobody in front
    rw [evA, aO 15 (by omega), ← e51] at qm
    have hf : f_frees Y e = true := by rw [f_frees_0 qa]; exact qm
    refine sX12_freeNow_39 ⟨fun _ => ⟨by omega, ?_⟩, fun q => absurd qa q⟩
    refine m_last hd hW heY hinY hnY (h1 hf) hf evA hW rfl qa ?_ ?_ EA ?_ (e6M _ EA).1 (e6M _ EA).2 ?_ ?_ ?_ ?_ ?_
    · unfold f_om; rw [if_pos qa, f_point_eq hinY]
    · unfold f_free; rw [if_pos qa]
    · rw [aO 42 (by omega)]; omega
    · rw [zU_ne (by omega), zU_eq]; unfold f_to; rw [if_pos qa]
    · rw [zU_eq]; unfold f_am; rw [if_pos qa]
    · rw [aO 42 (by omega)]; unfold f_mv; rw [if_pos qa]; rfl
    · intro i _; rw [a141]
    · intro P hP p0 p1 p2 p3
      rw [aO 42 (by omega)] at p0 p1 p2 p3 ⊢
      refine h_mv hW heY hinY hf hnY (fun _ => ?_) (fun q => absurd qa q)
      rw [show μ 119 42 + 4 - 4 = μ 119 42 from by omega, show μ 119 42 + 4 - 3 = μ 119 42 + 1 from by omega, show μ 119 42 + 4 - 2 = μ 119 42 + 2 from by omega, show μ 119 42 + 4 - 1 = μ 119 42 + 3 from by omega]
      exact ⟨p0, p1, p2, p3⟩
  · rw [evA, aO 15 (by omega), ← e51] at qm
    have fb := f_ahead_b hW he' qa
    have hf12 : 0 ≤ f_ahead Y e ∧ f_ahead Y e < 12 := by omega
    refine m_mayGo (co := co) (cn := cn) (by omega) WA (by rw [aO 6 (by omega)]; omega) (fun qm2 => zb1 ?_) (fun qm2 => zb0 ?_)
    · rw [evA, aO 15 (by omega), ← e51] at qm2
      refine sX12_freeNow_39 ⟨fun q => absurd q qa, fun _ => ?_⟩
      obtain ⟨F, hF⟩ : ∃ F : Nat → Int, f_toL Y e = F := ⟨_, rfl⟩
      have hF0 : F 0 = -1 := by rw [← hF]; rfl
      have hFs : ∀ i : Nat, F (i + 1) = if f_side Y e i = true ∧ (F i = -1 ∨ f_steps (Y 13 0) (Y 2 e) i < f_steps (Y 13 0) (Y 2 e) (F i)) then (i : Int) else F i := by
        intro i; rw [← hF]; rfl
      have hFt : ∀ i : Nat, (i : Int) = Y 13 0 + 1 → F i = f_to Y e := by
        intro i hi
        unfold f_to
        rw [if_neg qa, ← hF, show (Y 13 0 + 1).toNat = i from by omega]
      have := m_aside (K := K) (g := g) (d := d) (F := F) (μ := μ) (co := co) (cn := cn) (Y := Y) (e := e) hd hW hR he' qa hY hFs (fun best i M hi hE hv h42 h141 h43 => ?_) (Y 13 0 + 1).toNat 0 (-1) (zU (zU μ 119 43 (-1)) 119 44 0) (by omega) EA evA (aO 42 (by omega)) a141 (by rw [zU_ne (by omega), zU_eq, hF0]) (fun q => absurd hF0 q)
      · exact this
      · rw [hFt i hi] at h43
        have M0 := (e6M M hE).1
        have M6 := (e6M M hE).2
        refine sX12_freeNow_49 ⟨fun q => ⟨fun q2 => ⟨by omega, ?_⟩, fun q2 => ?_⟩, fun q => absurd q (by omega)⟩
        · rw [h43] at q2 ⊢
          have hf : f_frees Y e = true := by
            unfold f_frees; rw [qm, qm2]; simp [q2]
          have b2 := f_to_b hW qa hf
          have ba := f_am_b hW he' hf
          have W := w_aside hW he' qa hf hnY
          have aa := f_aside_ahead (p := f_to Y e) (t := f_am Y e) hW he' qa b2.2.2.1
          refine m_cost (co := co) (cn := cn) (by omega) (by rw [hv]; exact hW) (by rw [M6]; omega) (by omega) (zi ?_)
          rw [hv, ← f_am_eq hW he' qa, h43]
          have ev2 : vM (zU M 119 44 (f_am Y e)) co cn = Y := by rw [mUs (by omega), hv]
          have zo : ∀ i, ¬ i = 44 → zU M 119 44 (f_am Y e) 119 i = M 119 i := fun i hi => zU_ne (by omega)
          refine m_bring (co := co) (cn := cn) (by omega) (by rw [ev2]; exact hW) (by rw [zo 6 (by omega), M6]; omega) (by rw [ev2]; exact f_ahead_front hW he' qa) (by rw [zo 0 (by omega), M0]; omega) (by omega) (by rw [zo 42 (by omega)]; omega) (fun N hE2 hN42 hNP hNp hvN => zn ?_)
          rw [zo 42 (by omega), h42] at hN42
          rw [zo 42 (by omega), h42, zU_off 141 (by omega)] at hNP
          rw [zo 42 (by omega), h42, ev2] at hNp
          rw [ev2] at hvN
          have EN : zEw N μ := ((zEw.e hE2).trans ((zEw.refl _).s (by omega))).trans hE
          refine m_last hd hW heY hinY hnY (h1 hf) hf hvN W f_bring_13 aa.1 (f_om_eq hW he' qa b2.2.2.1) (by unfold f_free; rw [if_neg qa]) EN (by omega) (e6M N EN).1 (e6M N EN).2 ?_ ?_ ?_ ?_ ?_
          · rw [hE2.2 43 (by omega), zo 43 (by omega), h43]
          · rw [hE2.2 44 (by omega), zU_eq]
          · rw [hN42]; unfold f_mv; rw [if_neg qa]; simp only [List.length_cons, List.length_nil]; omega
          · intro i hi; rw [hNP i (by omega), h141]
          · intro P hP p0 p1 p2 p3
            rw [hN42] at hP p0 p1 p2 p3 ⊢
            refine h_mv hW heY hinY hf hnY (fun q => absurd q qa) (fun _ => ⟨?_, ?_⟩)
            · rw [show μ 119 42 + 4 + 4 - 4 = μ 119 42 + 4 from by omega, show μ 119 42 + 4 + 4 - 3 = μ 119 42 + 4 + 1 from by omega, show μ 119 42 + 4 + 4 - 2 = μ 119 42 + 4 + 2 from by omega, show μ 119 42 + 4 + 4 - 1 = μ 119 42 + 4 + 3 from by omega]
              rw [f_bring_50] at p2
              exact ⟨p0, p1, p2, p3⟩
            · rw [show μ 119 42 + 4 + 4 - 8 = μ 119 42 from by omega, show μ 119 42 + 4 + 4 - 7 = μ 119 42 + 1 from by omega, show μ 119 42 + 4 + 4 - 6 = μ 119 42 + 2 from by omega, show μ 119 42 + 4 + 4 - 5 = μ 119 42 + 3 from by omega, hP _ (by omega), hP _ (by omega), hP _ (by omega), hP _ (by omega)]
              exact hNp
        · rw [h43] at q2
          have hf : f_frees Y e = false := by
            unfold f_frees; rw [q2]; simp [qa]
          exact h0 hf M hE hv h42 h141
    · rw [evA, aO 15 (by omega), ← e51] at qm2
      refine h0 ?_ _ EA evA (aO 42 (by omega)) a141
      unfold f_frees; rw [qm2]; simp [qa]
  · rw [evA, aO 15 (by omega), ← e51] at qm
    refine h0 ?_ _ EA evA (aO 42 (by omega)) a141
    unfold f_frees; rw [qm]; simp
end
