-- needs 20.walks 30 31 32 33 34 35 36 37 38 39 40 41 42 43 44 45 46 47 21.s06 21.s07 21.s08
/-! the reference frees one -/
/-- what freeing changes -/
def zEw (μ' μ : zM) : Prop := (∀ j, ¬ (j = 119 ∨ j = 123 ∨ j = 124 ∨ j = 130 ∨ j = 141) → μ' j = μ j) ∧ ∀ i, ¬ (i = 14 ∨ i = 15 ∨ (34 ≤ i ∧ i ≤ 40) ∨ (42 ≤ i ∧ i ≤ 45)) → μ' 119 i = μ 119 i
theorem zEw.refl (μ : zM) : zEw μ μ := ⟨fun _ _ => rfl, fun _ _ => rfl⟩
theorem zEw.trans {a b c : zM} (h : zEw a b) (h' : zEw b c) : zEw a c := ⟨fun j hj => (h.1 j hj).trans (h'.1 j hj), fun i hi => (h.2 i hi).trans (h'.2 i hi)⟩
theorem zEw.m {a b : zM} (h : zEm a b) : zEw a b := ⟨fun j hj => h.1 j (by omega), fun i hi => h.2 i (by omega)⟩
theorem zEw.e {a b : zM} (h : zEv a b) : zEw a b := ⟨fun j hj => h.1 j (by omega), fun i hi => h.2 i (by omega)⟩
theorem zEw.s {a b : zM} {i v : Int} (h : zEw a b) (hi : 42 ≤ i ∧ i ≤ 45) : zEw (zU a 119 i v) b := ⟨fun j hj => by rw [zU_off j (by omega)]; exact h.1 j hj, fun k hk => by rw [zU_ne (by omega)]; exact h.2 k hk⟩
theorem zRu_w {μ μ' : zM} {co : Int → Int} {cn : Int} (h : zEw μ' μ) (hR : zRu (μ 138) (μ 119 28) co cn) : zRu (μ' 138) (μ' 119 28) co cn := by
  rw [h.1 138 (by omega), h.2 28 (by omega)]
  exact hR
/-- the moves by which one gets out -/
def f_mv (Y : zM) (e : Int) : List (zM × Int × Int × Int) := if f_ahead Y e = -1 then [(Y, e, Y 13 0, f_om Y e)] else [(f_bring Y (f_ahead Y e) (f_to Y e) (f_am Y e), e, Y 13 0, f_om Y e), (Y, f_ahead Y e, f_to Y e, f_am Y e)]
section
variable {g : zG} {d : Nat} {K : Option zV → zM → Prop} {μ : zM} {co : Int → Int} {cn e a b x y p t : Int}
theorem f_steps_c {n : Int} : f_steps n a b = f_steps n b a := by unfold f_steps; omega
theorem f_can_side {Y : zM} (h : y_W Y) (he : 0 ≤ e ∧ e < 12) (ha : ¬ f_ahead Y e = -1) : f_can Y (f_ahead Y e) p = f_side Y e p := by
  have b := f_ahead_b h he ha
  have fa := f_ahead_front h he ha
  unfold f_can f_side
  rw [fa, f_point_eq (by rw [b.2.1]; exact b.2.2.1), b.2.1]
  simp
/-- the moves, as the pile has them -/
theorem h_mv {P : Int → Int} {h : Int} {Y : zM} (hW : y_W Y) (he : 0 ≤ e ∧ e < Y 13 3) (hin : ¬ Y 2 e = -1) (hf : f_frees Y e = true) (hn : Y 5 1 ≤ 399000)
    (h0 : f_ahead Y e = -1 → P (h - 4) = e ∧ P (h - 3) = f_point Y e ∧ P (h - 2) = Y 5 0 ∧ P (h - 1) = f_om Y e)
    (h1 : ¬ f_ahead Y e = -1 → (P (h - 4) = e ∧ P (h - 3) = f_point (f_bring Y (f_ahead Y e) (f_to Y e) (f_am Y e)) e ∧ P (h - 2) = f_to Y e ∧ P (h - 1) = f_om Y e) ∧ (P (h - 8) = f_ahead Y e ∧ P (h - 7) = f_point Y (f_ahead Y e) ∧ P (h - 6) = Y 5 0 ∧ P (h - 5) = f_am Y e)) : h_ok P h (f_mv Y e) (f_free Y e) Y := by
  have w := hW.1
  have he' : 0 ≤ e ∧ e < 12 := by omega
  have w2 := (hW.2.2.2 e he').2.1
  have bo := f_om_b hW he' hin hf hn
  have ba := f_am_b hW he' hf
  unfold f_mv f_free
  by_cases ha : f_ahead Y e = -1
  · rw [if_pos ha, if_pos ha]
    simp only [h_ok]
    exact ⟨⟨trivial, hW, he, ha, Or.inl rfl, by rw [f_point_eq hin]; omega, by omega⟩, h0 ha, trivial⟩
  · rw [if_neg ha, if_neg ha]
    have b := f_ahead_b hW he' ha
    have b2 := f_to_b hW ha hf
    have W := w_aside hW he' ha hf hn
    have aa := f_aside_ahead (p := f_to Y e) (t := f_am Y e) hW he' ha b2.2.2.1
    obtain ⟨k1, k2⟩ := h1 ha
    simp only [h_ok]
    refine ⟨⟨trivial, W, by rw [f_bring_13]; exact he, aa.1, Or.inl (by rw [f_bring_13]), ?_, by omega⟩, ⟨k1.1, k1.2.1, by rw [f_bring_50]; exact k1.2.2.1, k1.2.2.2⟩, ⟨trivial, hW, b.1, f_ahead_front hW he' ha, b2.2.2.2, ?_, by omega⟩, ?_, trivial⟩
    · rw [f_point_eq (by rw [aa.2]; exact hin), aa.2]; omega
    · rw [f_point_eq (by rw [b.2.1]; exact hin), b.2.1]; exact b2.2.2.1
    · rw [show h - 4 - 4 = h - 8 from by omega, show h - 4 - 3 = h - 7 from by omega, show h - 4 - 2 = h - 6 from by omega, show h - 4 - 1 = h - 5 from by omega]
      exact k2
theorem m_freeNow (hd : 320 ≤ d) (hW : y_W (vM μ co cn)) (hR : zRu (μ 138) (μ 119 28) co cn) (he : 0 ≤ e ∧ e < μ 119 6) (hin : ¬ μ 130 e = -1) (hn : μ 119 15 ≤ 399000) (hh : 0 ≤ μ 119 42 ∧ μ 119 42 ≤ 248)
    (h1 : f_frees (vM μ co cn) e = true → ∀ μ', zEw μ' μ → vM μ' co cn = f_free (vM μ co cn) e → μ' 119 43 = f_to (vM μ co cn) e → μ' 119 44 = f_am (vM μ co cn) e → μ' 119 45 = f_om (vM μ co cn) e → μ' 119 42 = μ 119 42 + 4 * (f_mv (vM μ co cn) e).length → (∀ i, i < μ 119 42 → μ' 141 i = μ 141 i) → h_ok (μ' 141) (μ' 119 42) (f_mv (vM μ co cn) e) (f_free (vM μ co cn) e) (vM μ co cn) → K (some (.inl 1)) μ')
    (h0 : f_frees (vM μ co cn) e = false → ∀ μ', zEw μ' μ → vM μ' co cn = vM μ co cn → μ' 119 42 = μ 119 42 → μ' 141 = μ 141 → K (some (.inl 0)) μ') : zCall g d 216 [.inr (.inr ((0, 12), 119)), .inl e] μ K := by
  have w1 := v_env hW
  have w3 := v_tn hW
  have he' : 0 ≤ e ∧ e < 12 := by omega
  have w2 := v_en hW he'
  have v2 : vM μ co cn 2 e = μ 130 e := y_in he'
  have e13 : vM μ co cn 13 0 = μ 119 0 := by simp [vM]
  have e131 : vM μ co cn 13 1 = μ 119 16 := by simp [vM]
  have e132 : vM μ co cn 13 2 = μ 119 17 := by simp [vM]
  have e133 : vM μ co cn 13 3 = μ 119 6 := by simp only [vM]; rfl
  have e50 : vM μ co cn 5 0 = μ 119 14 := by simp [vM, y_cl]
  have e51 : vM μ co cn 5 1 = μ 119 15 := by simp [vM, y_cl]
  generalize hY : vM μ co cn = Y at *
  have heY : 0 ≤ e ∧ e < Y 13 3 := by omega
  have hinY : ¬ Y 2 e = -1 := by rw [v2]; exact hin
  -- the last move, from a state Z
  have last : ∀ (M : zM) (Z : zM), f_frees Y e = true → vM M co cn = Z → y_W Z → Z 13 = Y 13 → f_ahead Z e = -1 → Z 2 e = Y 2 e → f_om Y e = f_min Z (f_point Z e) (Y 13 0) → f_bring Z e (Y 13 0) (f_om Y e) = f_free Y e → zEw M μ → (0 ≤ M 119 42 ∧ M 119 42 ≤ 252) → M 119 0 = μ 119 0 → M 119 6 = μ 119 6 → M 119 43 = f_to Y e → M 119 44 = f_am Y e → M 119 42 + 4 = μ 119 42 + 4 * (f_mv Y e).length → (∀ i, i < μ 119 42 → M 141 i = μ 141 i) → (∀ P : Int → Int, (∀ i, i < M 119 42 → P i = M 141 i) → P (M 119 42) = e → P (M 119 42 + 1) = f_point Z e → P (M 119 42 + 2) = Z 5 0 → P (M 119 42 + 3) = f_om Y e → h_ok P (M 119 42 + 4) (f_mv Y e) (f_free Y e) Y) →
      zCall g (d - 1) 208 [.inr (.inr ((0, 12), 119)), .inl e, .inl (M 119 0)] M (zIi fun r2 μ1 => zCall g (d - 1) 212 [.inr (.inr ((0, 12), 119)), .inl e, .inl (μ1 119 0), .inl r2] (zU μ1 119 45 r2) (zNn fun μ3 => K (some (.inl 1)) μ3)) := by
    intro M Z hf hvM WZ z13 za z2 hom hfin hE h42 hM0 hM6 h43 h44 hlen hP hhist
    have bo := f_om_b hW he' hinY hf (by omega)
    refine m_cost (co := co) (cn := cn) (by omega) (by rw [hvM]; exact WZ) he' (by omega) (zi ?_)
    rw [hvM, hM0, ← e13, ← hom]
    have ev2 : vM (zU M 119 45 (f_om Y e)) co cn = Z := by rw [mUs (by omega), hvM]
    have zo : ∀ i, ¬ i = 45 → zU M 119 45 (f_om Y e) 119 i = M 119 i := fun i hi => zU_ne (by omega)
    refine m_bring (co := co) (cn := cn) (by omega) (by rw [ev2]; exact WZ) (by rw [zo 6 (by omega), hM6]; exact he) (by rw [ev2]; exact za) (by rw [zo 0 (by omega), hM0, e13]; omega) (by omega) (by rw [zo 42 (by omega)]; exact h42) (fun N hE2 hN42 hNP hNp hvN => zn ?_)
    rw [zo 42 (by omega)] at hN42 hNP hNp
    rw [ev2] at hNp hvN
    rw [zU_off 141 (by omega)] at hNP
    refine h1 hf N ?_ ?_ ?_ ?_ ?_ ?_ ?_ ?_
    · exact ((zEw.e hE2).trans ((zEw.refl _).s (by omega))).trans hE
    · rw [hvN]; exact hfin
    · rw [hE2.2 43 (by omega), zo 43 (by omega), h43]
    · rw [hE2.2 44 (by omega), zo 44 (by omega), h44]
    · rw [hE2.2 45 (by omega), zU_eq]
    · rw [hN42]; exact hlen
    · intro i hi
      have : (f_mv Y e).length ≥ 1 := by unfold f_mv; split <;> simp
      rw [hNP i (by omega), hP i hi]
    · rw [hN42]
      exact hhist (N 141) (fun i hi => hNP i (by omega)) hNp.1 hNp.2.1 hNp.2.2.1 hNp.2.2.2
  -- it can't
  have no : ∀ M, f_frees Y e = false → zEw M μ → vM M co cn = Y → M 119 42 = μ 119 42 → M 141 = μ 141 → K (some (.inl 0)) M := fun M hf hE hv h42 h141 => h0 hf M hE hv h42 h141
  have evA : vM (zU (zU μ 119 43 (-1)) 119 44 0) co cn = Y := by rw [mUs (by omega), mUs (by omega), hY]
  have EA : zEw (zU (zU μ 119 43 (-1)) 119 44 0) μ := ((zEw.refl μ).s (by omega)).s (by omega)
  have aO : ∀ i, ¬ (i = 43 ∨ i = 44) → zU (zU μ 119 43 (-1)) 119 44 0 119 i = μ 119 i := fun i hi => by rw [zU_ne (by omega), zU_ne (by omega)]
  have a141 : zU (zU μ 119 43 (-1)) 119 44 0 141 = μ 141 := by rw [zU_off _ (by omega), zU_off _ (by omega)]
  have WA : y_W (vM (zU (zU μ 119 43 (-1)) 119 44 0) co cn) := by rw [evA]; exact hW
  refine sX12_freeNow ⟨by omega, m_ahead (co := co) (cn := cn) (by omega) he' (by omega) (zi ?_)⟩
  rw [hY]
  refine m_mayGo (co := co) (cn := cn) (by omega) WA he' (fun qm => zb1 ⟨fun qa => ?_, fun qa => ?_⟩) (fun qm => zb0 ?_)
  · -- nobody in front
    rw [evA, aO 15 (by omega), ← e51] at qm
    have hf : f_frees Y e = true := by rw [f_frees_0 qa]; exact qm
    refine sX12_freeNow_39 ⟨fun _ => ⟨by omega, ?_⟩, fun q => absurd qa q⟩
    refine last _ Y hf evA hW rfl qa rfl ?_ ?_ EA ?_ (aO 0 (by omega)) (aO 6 (by omega)) ?_ ?_ ?_ ?_ ?_
    · unfold f_om; rw [if_pos qa, f_point_eq hinY]
    · unfold f_free; rw [if_pos qa]
    · rw [aO 42 (by omega)]; omega
    · rw [zU_ne (by omega), zU_eq]; unfold f_to; rw [if_pos qa]
    · rw [zU_eq]; unfold f_am; rw [if_pos qa]
    · rw [aO 42 (by omega)]; unfold f_mv; rw [if_pos qa]; rfl
    · intro i _; rw [a141]
    · intro P hP p0 p1 p2 p3
      rw [aO 42 (by omega)] at p0 p1 p2 p3 ⊢
      refine h_mv hW heY hinY hf (by omega) (fun _ => ?_) (fun q => absurd qa q)
      rw [show μ 119 42 + 4 - 4 = μ 119 42 from by omega, show μ 119 42 + 4 - 3 = μ 119 42 + 1 from by omega, show μ 119 42 + 4 - 2 = μ 119 42 + 2 from by omega, show μ 119 42 + 4 - 1 = μ 119 42 + 3 from by omega]
      exact ⟨p0, p1, p2, p3⟩
  · rw [evA, aO 15 (by omega), ← e51] at qm
    have fb := f_ahead_b hW he' qa
    have hf12 : 0 ≤ f_ahead Y e ∧ f_ahead Y e < 12 := by omega
    refine m_mayGo (co := co) (cn := cn) (by omega) WA hf12 (fun qm2 => zb1 ?_) (fun qm2 => zb0 ?_)
    · rw [evA, aO 15 (by omega), ← e51] at qm2
      refine sX12_freeNow_39 ⟨fun q => absurd q qa, fun _ => ?_⟩
      -- the loop over places aside
      have vst : ∀ p, 0 ≤ p ∧ p ≤ Y 13 0 → 0 ≤ f_steps (Y 13 0) (Y 2 e) p ∧ f_steps (Y 13 0) (Y 2 e) p ≤ 12 := fun p hp => f_steps_b (by omega) (by omega) hp
      have w50 : 0 ≤ f_steps (Y 13 0) (Y 5 0) (Y 2 e) ∧ f_steps (Y 13 0) (Y 5 0) (Y 2 e) ≤ 12 := f_steps_b (by omega) (by omega) (by omega)
      have wn : 0 ≤ f_steps (Y 13 0) (Y 2 e) (Y 13 0) ∧ f_steps (Y 13 0) (Y 2 e) (Y 13 0) ≤ 12 := f_steps_b (by omega) (by omega) (by omega)
      -- what a place costs
      have loop : ∀ (k : Nat) (i : Nat) (best : Int) (M : zM), i + k = (Y 13 0 + 1).toNat → zEw M μ → vM M co cn = Y → M 119 42 = μ 119 42 → M 141 = μ 141 → M 119 43 = f_toL Y e i → M 119 44 = 0 → (¬ f_toL Y e i = -1 → best = Y 13 1 * (f_steps (Y 13 0) (Y 5 0) (Y 2 e) + f_steps (Y 13 0) (Y 2 e) (f_toL Y e i)) + 2 * Y 13 2 + Y 13 1 * (f_steps (Y 13 0) (Y 2 e) (f_toL Y e i) + f_steps (Y 13 0) (Y 2 e) (Y 13 0)) + 2 * Y 13 2) → zT g d mX12_freeNow K 49 [some (.inr (.inr ((0, 12), 119))), some (.inl e), some (.inl (f_ahead Y e)), some (.inl best), some (.inl (i : Int)), none] [] M := by
        intro k
        induction k with
        | zero =>
          intro i best M hi hE hv h42 h141 h43 h44 hb
          have M0 : M 119 0 = μ 119 0 := hE.2 0 (by omega)
          have M6 : M 119 6 = μ 119 6 := hE.2 6 (by omega)
          have hto : f_toL Y e i = f_to Y e := by unfold f_to; rw [if_neg qa, show (Y 13 0 + 1).toNat = i from by omega]
          rw [hto] at h43
          refine sX12_freeNow_49 ⟨fun q => ⟨fun q2 => ⟨by omega, ?_⟩, fun q2 => ?_⟩, fun q => absurd q (by omega)⟩
          · rw [h43] at q2 ⊢
            have hf : f_frees Y e = true := by
              unfold f_frees; rw [qm, qm2]; simp [q2]
            have b2 := f_to_b hW qa hf
            have ba := f_am_b hW he' hf
            have W := w_aside hW he' qa hf (by omega)
            have aa := f_aside_ahead (p := f_to Y e) (t := f_am Y e) hW he' qa b2.2.2.1
            refine m_cost (co := co) (cn := cn) (by omega) (by rw [hv]; exact hW) hf12 (by omega) (zi ?_)
            rw [hv, ← f_am_eq hW he' qa, h43]
            have ev2 : vM (zU M 119 44 (f_am Y e)) co cn = Y := by rw [mUs (by omega), hv]
            have zo : ∀ i, ¬ i = 44 → zU M 119 44 (f_am Y e) 119 i = M 119 i := fun i hi => zU_ne (by omega)
            refine m_bring (co := co) (cn := cn) (by omega) (by rw [ev2]; exact hW) (by rw [zo 6 (by omega), M6]; omega) (by rw [ev2]; exact f_ahead_front hW he' qa) (by rw [zo 0 (by omega), M0]; omega) (by omega) (by rw [zo 42 (by omega)]; omega) (fun N hE2 hN42 hNP hNp hvN => zn ?_)
            rw [zo 42 (by omega), h42] at hN42
            rw [zo 42 (by omega), h42, zU_off 141 (by omega)] at hNP
            rw [zo 42 (by omega), h42, ev2] at hNp
            rw [ev2] at hvN
            have EN : zEw N μ := ((zEw.e hE2).trans ((zEw.refl _).s (by omega))).trans hE
            refine last N _ hf hvN W f_bring_13 aa.1 aa.2 (f_om_eq hW he' qa b2.2.2.1) (by unfold f_free; rw [if_neg qa]) EN (by omega) (EN.2 0 (by omega)) (EN.2 6 (by omega)) ?_ ?_ ?_ ?_ ?_
            · rw [hE2.2 43 (by omega), zo 43 (by omega), h43]
            · rw [hE2.2 44 (by omega), zU_eq]
            · rw [hN42]; unfold f_mv; rw [if_neg qa]; simp only [List.length_cons, List.length_nil]; omega
            · intro i hi; rw [hNP i (by omega), h141]
            · intro P hP p0 p1 p2 p3
              rw [hN42] at hP p0 p1 p2 p3 ⊢
              refine h_mv hW heY hinY hf (by omega) (fun q => absurd q qa) (fun _ => ⟨?_, ?_⟩)
              · rw [show μ 119 42 + 4 + 4 - 4 = μ 119 42 + 4 from by omega, show μ 119 42 + 4 + 4 - 3 = μ 119 42 + 4 + 1 from by omega, show μ 119 42 + 4 + 4 - 2 = μ 119 42 + 4 + 2 from by omega, show μ 119 42 + 4 + 4 - 1 = μ 119 42 + 4 + 3 from by omega]
                rw [f_bring_50] at p2
                exact ⟨p0, p1, p2, p3⟩
              · rw [show μ 119 42 + 4 + 4 - 8 = μ 119 42 from by omega, show μ 119 42 + 4 + 4 - 7 = μ 119 42 + 1 from by omega, show μ 119 42 + 4 + 4 - 6 = μ 119 42 + 2 from by omega, show μ 119 42 + 4 + 4 - 5 = μ 119 42 + 3 from by omega, hP _ (by omega), hP _ (by omega), hP _ (by omega), hP _ (by omega)]
                exact hNp
          · rw [h43] at q2
            have hf : f_frees Y e = false := by
              unfold f_frees; rw [q2]; simp [qa]
            exact no M hf hE hv h42 h141
        | succ k ih =>
          intro i best M hi hE hv h42 h141 h43 h44 hb
          have M0 : M 119 0 = μ 119 0 := hE.2 0 (by omega)
          have z1 : zw ((i : Int) + 1) = ((i + 1 : Nat) : Int) := by rw [zwi (by omega) (by omega)]; omega
          have hti : f_toL Y e (i + 1) = if f_side Y e i = true ∧ (f_toL Y e i = -1 ∨ f_steps (Y 13 0) (Y 2 e) i < f_steps (Y 13 0) (Y 2 e) (f_toL Y e i)) then (i : Int) else f_toL Y e i := rfl
          have tb : ¬ f_toL Y e i = -1 → 0 ≤ f_toL Y e i ∧ f_toL Y e i ≤ Y 13 0 := by
            intro q
            rcases f_toL_is Y e i with ⟨q1, _⟩ | ⟨q1, _⟩
            · exact absurd q1 q
            · omega
          refine sX12_freeNow_49 ⟨fun q => absurd q (by omega), fun q => ⟨by omega, m_canBe (co := co) (cn := cn) (by omega) (by rw [hv]; exact hW) (zRu_w hE hR) hf12 (by omega) (fun N hN qs => zb1 ?_) (fun N hN qs => zb0 ?_)⟩⟩
          · rw [hv, f_can_side hW he' qa] at qs
            have EN : zEw N μ := (zEw.m hN).trans hE
            have hvN : vM N co cn = Y := by rw [hN.v, hv]
            have N0 : N 119 0 = μ 119 0 := EN.2 0 (by omega)
            have N130 : N 130 e = μ 130 e := by rw [hN.1 130 (by omega), ← y_in (f := M 130) he']; show vM M co cn 2 e = _; rw [hv, v2]
            have N16 : N 119 16 = Y 13 1 := by rw [EN.2 16 (by omega), e131]
            have N17 : N 119 17 = Y 13 2 := by rw [EN.2 17 (by omega), e132]
            have N43 : N 119 43 = f_toL Y e i := by rw [hN.2 43 (by omega), h43]
            refine m_cost (co := co) (cn := cn) (by omega) (by rw [hvN]; exact hW) hf12 (by omega) (zi ⟨he', ?_⟩)
            rw [hvN, N130]
            refine m_steps (by omega) (by omega) (by omega) (by omega) (zi ?_)
            rw [N130]
            refine m_steps (by omega) (by omega) (by omega) (by omega) (zi ?_)
            rw [N16, N17, N0, ← e13, ← v2]
            have hfp : f_point Y (f_ahead Y e) = Y 2 e := by rw [f_point_eq (by rw [fb.2.1]; exact hinY), fb.2.1]
            have hcost : f_min Y (f_point Y (f_ahead Y e)) i = Y 13 1 * (f_steps (Y 13 0) (Y 5 0) (Y 2 e) + f_steps (Y 13 0) (Y 2 e) i) + 2 * Y 13 2 := by rw [hfp]; rfl
            rw [hcost, f_steps_c (a := (i : Int)) (b := Y 2 e)]
            have b1 := vst i (by omega)
            have w := hW.1
            generalize hS : f_steps (Y 13 0) (Y 2 e) i = S at *
            generalize hA : f_steps (Y 13 0) (Y 5 0) (Y 2 e) = A at *
            generalize hN' : f_steps (Y 13 0) (Y 2 e) (Y 13 0) = T at *
            generalize hT1 : Y 13 1 = T1 at *
            generalize hG : Y 13 2 = G at *
            have m1 : 0 ≤ T1 * (A + S) ∧ T1 * (A + S) ≤ 9 * 24 := ⟨Int.mul_nonneg (by omega) (by omega), Int.mul_le_mul (by omega) (by omega) (by omega) (by omega)⟩
            have m2 : 0 ≤ T1 * (S + T) ∧ T1 * (S + T) ≤ 9 * 24 := ⟨Int.mul_nonneg (by omega) (by omega), Int.mul_le_mul (by omega) (by omega) (by omega) (by omega)⟩
            rw [zwi (x := S + T) (by omega) (by omega), zwi (x := T1 * (S + T)) (by omega) (by omega), zwi (x := T1 * (A + S) + 2 * G + T1 * (S + T)) (by omega) (by omega), zwi (x := 2 * G) (by omega) (by omega), zwi (x := T1 * (A + S) + 2 * G + T1 * (S + T) + 2 * G) (by omega) (by omega), z1, N43]
            have take : f_side Y e i = true ∧ (f_toL Y e i = -1 ∨ S < f_steps (Y 13 0) (Y 2 e) (f_toL Y e i)) → zT g d mX12_freeNow K 49 [some (.inr (.inr ((0, 12), 119))), some (.inl e), some (.inl (f_ahead Y e)), some (.inl (T1 * (A + S) + 2 * G + T1 * (S + T) + 2 * G)), some (.inl ((i + 1 : Nat) : Int)), none] [] (zU N 119 43 (i : Int)) := by
              intro hc
              have ht : f_toL Y e (i + 1) = i := by rw [hti, if_pos hc]
              refine ih (i + 1) _ _ (by omega) (EN.s (by omega)) (by rw [mUs (by omega), hvN]) ?_ ?_ ?_ ?_ (fun _ => ?_)
              · rw [zU_ne (by omega), hN.2 42 (by omega), h42]
              · rw [zU_off _ (by omega), hN.1 141 (by omega), h141]
              · rw [zU_eq, ht]
              · rw [zU_ne (by omega), hN.2 44 (by omega), h44]
              · rw [ht, hS]
            refine ⟨fun q2 => take ⟨qs, Or.inl q2⟩, fun q2 => ⟨fun q3 => take ⟨qs, Or.inr ?_⟩, fun q3 => ?_⟩⟩
            · have hb2 := hb q2
              have b3 := vst (f_toL Y e i) (tb q2)
              generalize f_steps (Y 13 0) (Y 2 e) (f_toL Y e i) = S' at *
              rw [hb2] at q3
              by_cases hlt : S < S'
              · exact hlt
              · exfalso
                have m3 : T1 * (A + S') ≤ T1 * (A + S) := Int.mul_le_mul_of_nonneg_left (by omega) (by omega)
                have m4 : T1 * (S' + T) ≤ T1 * (S + T) := Int.mul_le_mul_of_nonneg_left (by omega) (by omega)
                omega
            · have hb2 := hb q2
              have b3 := vst (f_toL Y e i) (tb q2)
              have hnc : ¬ (f_side Y e i = true ∧ (f_toL Y e i = -1 ∨ S < f_steps (Y 13 0) (Y 2 e) (f_toL Y e i))) := by
                rintro ⟨_, hc | hc⟩
                · exact q2 hc
                · generalize f_steps (Y 13 0) (Y 2 e) (f_toL Y e i) = S' at *
                  rw [hb2] at q3
                  have m3 : T1 * (A + S) ≤ T1 * (A + S') - T1 := by
                    have := Int.mul_le_mul_of_nonneg_left (a := A + S) (b := A + S' - 1) (c := T1) (by omega) (by omega)
                    rw [Int.mul_sub, Int.mul_one] at this
                    exact this
                  have m4 : T1 * (S + T) ≤ T1 * (S' + T) := Int.mul_le_mul_of_nonneg_left (by omega) (by omega)
                  omega
              have ht : f_toL Y e (i + 1) = f_toL Y e i := by rw [hti, if_neg hnc]
              refine ih (i + 1) best N (by omega) EN hvN (by rw [hN.2 42 (by omega), h42]) (by rw [hN.1 141 (by omega), h141]) (by rw [N43, ht]) (by rw [hN.2 44 (by omega), h44]) (fun hq => ?_)
              rw [ht]
              exact hb2
          · rw [hv, f_can_side hW he' qa] at qs
            have ht : f_toL Y e (i + 1) = f_toL Y e i := by rw [hti, if_neg (by rw [qs]; simp)]
            rw [z1]
            refine ih (i + 1) best N (by omega) ((zEw.m hN).trans hE) (by rw [hN.v, hv]) (by rw [hN.2 42 (by omega), h42]) (by rw [hN.1 141 (by omega), h141]) (by rw [hN.2 43 (by omega), h43, ht]) (by rw [hN.2 44 (by omega), h44]) (fun hq => ?_)
            rw [ht] at hq ⊢
            exact hb hq
      have := loop (Y 13 0 + 1).toNat 0 (-1) (zU (zU μ 119 43 (-1)) 119 44 0) (by omega) EA evA (aO 42 (by omega)) a141 (by rw [zU_ne (by omega), zU_eq]; rfl) zU_eq (fun q => absurd rfl q)
      exact this
    · rw [evA, aO 15 (by omega), ← e51] at qm2
      refine no _ ?_ EA evA (aO 42 (by omega)) a141
      unfold f_frees; rw [qm2]; simp [qa]
  · rw [evA, aO 15 (by omega), ← e51] at qm
    refine no _ ?_ EA evA (aO 42 (by omega)) a141
    unfold f_frees; rw [qm]; simp
end
