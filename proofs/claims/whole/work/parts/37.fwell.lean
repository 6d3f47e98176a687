-- needs 20.walks 30 34 35 36
/-! what is true of every state stays true when one moves -/
section
variable {Y : zM} {e p x t : Int}
theorem w_out (h : y_W Y) (he : 0 ≤ e ∧ e < Y 13 3) (ha : f_ahead Y e = -1) : y_W (f_out Y e) ∧ f_out Y e 2 e = -1 := by
  obtain ⟨h1, h2, h3, h4⟩ := h
  by_cases q : Y 2 e = -1
  · unfold f_out
    rw [if_pos q]
    exact ⟨⟨h1, h2, h3, h4⟩, q⟩
  · have he' : 0 ≤ e ∧ e < 12 := by omega
    have ee := h4 e he'
    generalize hf : Y 2 e = f at *
    have hf2 : 0 ≤ f ∧ f < 23 := by omega
    have ef := h3 f hf2
    by_cases qb : Y 0 f = e
    · have hz : f_out Y e = zU (zU Y 0 f (-1)) 2 e (-1) := by
        unfold f_out
        rw [hf, if_neg q, if_pos qb]
      have ha2 : Y 1 f = -1 := by
        unfold f_ahead f_atb at ha
        rw [hf] at ha
        simpa [q, qb] using ha
      rw [hz]
      refine ⟨⟨?_, ?_, ?_, ?_⟩, zU_eq⟩
      · simpa [zU] using h1
      · simpa [zU] using h2
      · intro s hs
        have es := h3 s hs
        have z0 : zU (zU Y 0 f (-1)) 2 e (-1) 0 s = if s = f then -1 else Y 0 s := by simp [zU]
        have z1 : zU (zU Y 0 f (-1)) 2 e (-1) 1 s = Y 1 s := by simp [zU]
        have z2 : ∀ i, zU (zU Y 0 f (-1)) 2 e (-1) 2 i = if i = e then -1 else Y 2 i := by intro i; simp [zU]
        have z3 : zU (zU Y 0 f (-1)) 2 e (-1) 13 3 = Y 13 3 := by simp [zU]
        have z4 : ∀ k, 6 ≤ k → zU (zU Y 0 f (-1)) 2 e (-1) k s = Y k s := by intro k hk; rw [zU_ne (by omega), zU_ne (by omega)]
        rw [z4 6 (by omega), z4 7 (by omega), z4 8 (by omega), z0, z1, z2, z2, z3]
        refine ⟨es.1, ?_, ?_, ?_⟩
        · split <;> omega
        · split
          · intro q2; omega
          · intro q2
            have := es.2.2.1 q2
            rw [if_neg (by intro q3; rw [q3] at this; omega)]
            exact this
        · intro q2
          have := es.2.2.2 q2
          have ns : ¬ s = f := by intro q3; subst q3; omega
          rw [if_neg (by intro q3; rw [q3] at this; omega), if_neg ns]
          exact this
      · intro i hi
        have ei := h4 i hi
        have z0 : ∀ s, zU (zU Y 0 f (-1)) 2 e (-1) 0 s = if s = f then -1 else Y 0 s := by intro s; simp [zU]
        have z1 : ∀ s, zU (zU Y 0 f (-1)) 2 e (-1) 1 s = Y 1 s := by intro s; simp [zU]
        have z2 : zU (zU Y 0 f (-1)) 2 e (-1) 2 i = if i = e then -1 else Y 2 i := by simp [zU]
        have z4 : ∀ k, 3 ≤ k → ∀ i, zU (zU Y 0 f (-1)) 2 e (-1) k i = Y k i := by intro k hk i; rw [zU_ne (by omega), zU_ne (by omega)]
        rw [z4 9 (by omega), z4 10 (by omega), z4 11 (by omega), z4 12 (by omega), z4 4 (by omega), z4 13 (by omega), z4 3 (by omega), z4 5 (by omega), z4 13 (by omega), z2, z0, z1]
        refine ⟨ei.1, ?_, ?_, ?_⟩
        · split <;> omega
        · by_cases qi : i = e
          · rw [if_pos qi]; intro q2; exact absurd rfl q2
          · rw [if_neg qi]
            intro q2
            by_cases q3 : Y 2 i = f
            · exfalso
              have := ei.2.2.1 q2
              rw [q3] at this
              omega
            · rw [if_neg q3]; exact ei.2.2.1 q2
        · intro q2
          by_cases qi : i = e
          · omega
          · rw [if_neg qi]; exact ei.2.2.2 q2
    · have hz : f_out Y e = zU (zU Y 1 f (-1)) 2 e (-1) := by
        unfold f_out
        rw [hf, if_neg q, if_neg qb]
      have ha2 : Y 1 f = e := by
        have := ee.2.2.1 q
        omega
      rw [hz]
      refine ⟨⟨?_, ?_, ?_, ?_⟩, zU_eq⟩
      · simpa [zU] using h1
      · simpa [zU] using h2
      · intro s hs
        have es := h3 s hs
        have z0 : zU (zU Y 1 f (-1)) 2 e (-1) 1 s = if s = f then -1 else Y 1 s := by simp [zU]
        have z1 : zU (zU Y 1 f (-1)) 2 e (-1) 0 s = Y 0 s := by simp [zU]
        have z2 : ∀ i, zU (zU Y 1 f (-1)) 2 e (-1) 2 i = if i = e then -1 else Y 2 i := by intro i; simp [zU]
        have z3 : zU (zU Y 1 f (-1)) 2 e (-1) 13 3 = Y 13 3 := by simp [zU]
        have z4 : ∀ k, 6 ≤ k → zU (zU Y 1 f (-1)) 2 e (-1) k s = Y k s := by intro k hk; rw [zU_ne (by omega), zU_ne (by omega)]
        rw [z4 6 (by omega), z4 7 (by omega), z4 8 (by omega), z0, z1, z2, z2, z3]
        refine ⟨es.1, ?_, ?_, ?_⟩
        · split <;> omega
        · intro q2
          have := es.2.2.1 q2
          rw [if_neg (by intro q3; rw [q3] at this; have : s = f := by omega
                         subst this; omega)]
          exact this
        · by_cases qs : s = f
          · rw [if_pos qs]; intro q2; exact absurd rfl q2
          · rw [if_neg qs]
            intro q2
            have := es.2.2.2 q2
            rw [if_neg (by intro q3; rw [q3] at this; omega)]
            exact this
      · intro i hi
        have ei := h4 i hi
        have z0 : ∀ s, zU (zU Y 1 f (-1)) 2 e (-1) 1 s = if s = f then -1 else Y 1 s := by intro s; simp [zU]
        have z1 : ∀ s, zU (zU Y 1 f (-1)) 2 e (-1) 0 s = Y 0 s := by intro s; simp [zU]
        have z2 : zU (zU Y 1 f (-1)) 2 e (-1) 2 i = if i = e then -1 else Y 2 i := by simp [zU]
        have z4 : ∀ k, 3 ≤ k → ∀ i, zU (zU Y 1 f (-1)) 2 e (-1) k i = Y k i := by intro k hk i; rw [zU_ne (by omega), zU_ne (by omega)]
        rw [z4 9 (by omega), z4 10 (by omega), z4 11 (by omega), z4 12 (by omega), z4 4 (by omega), z4 13 (by omega), z4 3 (by omega), z4 5 (by omega), z4 13 (by omega), z2, z0, z1]
        refine ⟨ei.1, ?_, ?_, ?_⟩
        · split <;> omega
        · by_cases qi : i = e
          · rw [if_pos qi]; intro q2; exact absurd rfl q2
          · rw [if_neg qi]
            intro q2
            have := ei.2.2.1 q2
            by_cases q3 : Y 2 i = f
            · rw [if_pos q3]
              rw [q3] at this ⊢
              omega
            · rw [if_neg q3]; exact this
        · intro q2
          by_cases qi : i = e
          · omega
          · rw [if_neg qi]; exact ei.2.2.2 q2
theorem w_in (h : y_W Y) (he : 0 ≤ e ∧ e < Y 13 3) (h0 : Y 2 e = -1) (hp : p = Y 13 0 ∨ (0 ≤ p ∧ p < Y 13 0 ∧ Y 1 p = -1)) : y_W (f_in Y e p) := by
  unfold f_in
  by_cases q : p = Y 13 0
  · rw [if_pos q]
    exact h
  · rw [if_neg q]
    have hp : 0 ≤ p ∧ p < Y 13 0 ∧ Y 1 p = -1 := by omega
    obtain ⟨h1, h2, h3, h4⟩ := h
    have he' : 0 ≤ e ∧ e < 12 := by omega
    have hp' : 0 ≤ p ∧ p < 23 := by omega
    have ee := h4 e he'
    have ep := h3 p hp'
    have no0 : ∀ s, 0 ≤ s ∧ s < 23 → ¬ Y 0 s = e := by
      intro s hs q2
      have := (h3 s hs).2.2.1 (by omega)
      rw [q2] at this
      omega
    have no1 : ∀ s, 0 ≤ s ∧ s < 23 → ¬ Y 1 s = e := by
      intro s hs q2
      have := (h3 s hs).2.2.2 (by omega)
      rw [q2] at this
      omega
    by_cases qb : Y 0 p = -1
    · rw [if_pos qb]
      refine ⟨?_, ?_, ?_, ?_⟩
      · simpa [zU] using h1
      · simpa [zU] using h2
      · intro s hs
        have es := h3 s hs
        have n0 := no0 s hs
        have n1 := no1 s hs
        have z0 : zU (zU Y 0 p e) 2 e p 0 s = if s = p then e else Y 0 s := by simp [zU]
        have z1 : zU (zU Y 0 p e) 2 e p 1 s = Y 1 s := by simp [zU]
        have z2 : ∀ i, zU (zU Y 0 p e) 2 e p 2 i = if i = e then p else Y 2 i := by intro i; simp [zU]
        have z3 : zU (zU Y 0 p e) 2 e p 13 3 = Y 13 3 := by simp [zU]
        have z4 : ∀ k, 6 ≤ k → zU (zU Y 0 p e) 2 e p k s = Y k s := by intro k hk; rw [zU_ne (by omega), zU_ne (by omega)]
        rw [z4 6 (by omega), z4 7 (by omega), z4 8 (by omega), z0, z1, z2, z2, z3]
        refine ⟨es.1, ?_, ?_, ?_⟩
        · split <;> omega
        · by_cases qs : s = p
          · intro q2; rw [if_pos qs, if_pos rfl]; exact qs.symm
          · rw [if_neg qs, if_neg n0]; exact es.2.2.1
        · intro q2
          have := es.2.2.2 q2
          rw [if_neg n1]
          refine ⟨this.1, ?_, ?_⟩
          · split
            · omega
            · exact this.2.1
          · split
            · omega
            · exact this.2.2
      · intro i hi
        have ei := h4 i hi
        have z0 : ∀ s, zU (zU Y 0 p e) 2 e p 0 s = if s = p then e else Y 0 s := by intro s; simp [zU]
        have z1 : ∀ s, zU (zU Y 0 p e) 2 e p 1 s = Y 1 s := by intro s; simp [zU]
        have z2 : zU (zU Y 0 p e) 2 e p 2 i = if i = e then p else Y 2 i := by simp [zU]
        have z4 : ∀ k, 3 ≤ k → ∀ i, zU (zU Y 0 p e) 2 e p k i = Y k i := by intro k hk i; rw [zU_ne (by omega), zU_ne (by omega)]
        rw [z4 9 (by omega), z4 10 (by omega), z4 11 (by omega), z4 12 (by omega), z4 4 (by omega), z4 13 (by omega), z4 3 (by omega), z4 5 (by omega), z4 13 (by omega), z2, z0, z1]
        refine ⟨ei.1, ?_, ?_, ?_⟩
        · split <;> omega
        · by_cases qi : i = e
          · rw [if_pos qi, if_pos rfl]; intro _; exact Or.inl qi.symm
          · rw [if_neg qi]
            intro q2
            have := ei.2.2.1 q2
            by_cases q3 : Y 2 i = p
            · rw [q3] at this; omega
            · rw [if_neg q3]; exact this
        · intro q2
          rw [if_neg (by omega)]; exact ei.2.2.2 q2
    · rw [if_neg qb]
      refine ⟨?_, ?_, ?_, ?_⟩
      · simpa [zU] using h1
      · simpa [zU] using h2
      · intro s hs
        have es := h3 s hs
        have n0 := no0 s hs
        have n1 := no1 s hs
        have z0 : zU (zU Y 1 p e) 2 e p 1 s = if s = p then e else Y 1 s := by simp [zU]
        have z1 : zU (zU Y 1 p e) 2 e p 0 s = Y 0 s := by simp [zU]
        have z2 : ∀ i, zU (zU Y 1 p e) 2 e p 2 i = if i = e then p else Y 2 i := by intro i; simp [zU]
        have z3 : zU (zU Y 1 p e) 2 e p 13 3 = Y 13 3 := by simp [zU]
        have z4 : ∀ k, 6 ≤ k → zU (zU Y 1 p e) 2 e p k s = Y k s := by intro k hk; rw [zU_ne (by omega), zU_ne (by omega)]
        rw [z4 6 (by omega), z4 7 (by omega), z4 8 (by omega), z0, z1, z2, z2, z3]
        refine ⟨es.1, ?_, ?_, ?_⟩
        · split <;> omega
        · intro q2; rw [if_neg n0]; exact es.2.2.1 q2
        · by_cases qs : s = p
          · intro q2
            subst qs
            rw [if_pos rfl, if_pos rfl]
            exact ⟨rfl, qb, n0⟩
          · rw [if_neg qs, if_neg n1]
            exact es.2.2.2
      · intro i hi
        have ei := h4 i hi
        have z0 : ∀ s, zU (zU Y 1 p e) 2 e p 1 s = if s = p then e else Y 1 s := by intro s; simp [zU]
        have z1 : ∀ s, zU (zU Y 1 p e) 2 e p 0 s = Y 0 s := by intro s; simp [zU]
        have z2 : zU (zU Y 1 p e) 2 e p 2 i = if i = e then p else Y 2 i := by simp [zU]
        have z4 : ∀ k, 3 ≤ k → ∀ i, zU (zU Y 1 p e) 2 e p k i = Y k i := by intro k hk i; rw [zU_ne (by omega), zU_ne (by omega)]
        rw [z4 9 (by omega), z4 10 (by omega), z4 11 (by omega), z4 12 (by omega), z4 4 (by omega), z4 13 (by omega), z4 3 (by omega), z4 5 (by omega), z4 13 (by omega), z2, z0, z1]
        refine ⟨ei.1, ?_, ?_, ?_⟩
        · split <;> omega
        · by_cases qi : i = e
          · rw [if_pos qi, if_pos rfl]; intro _; exact Or.inr qi.symm
          · rw [if_neg qi]
            intro q2
            have := ei.2.2.1 q2
            by_cases q3 : Y 2 i = p
            · rw [q3] at this ⊢; rw [if_pos rfl]; omega
            · rw [if_neg q3]; exact this
        · intro q2
          rw [if_neg (by omega)]; exact ei.2.2.2 q2
theorem w_tab {v : Int} (h : y_W Y) (hv : 0 ≤ v ∧ v ≤ Y 13 0) : y_W (zU Y 5 0 v) := by
  obtain ⟨h1, h2, h3, h4⟩ := h
  refine ⟨by simpa [zU] using h1, ?_, ?_, ?_⟩
  · rw [zU_eq, zU_ne (by omega), zU_ne (by omega)]; omega
  · intro s hs
    have := h3 s hs
    have z : ∀ k, ¬ k = 5 → zU Y 5 0 v k = Y k := fun k hk => zU_off k hk
    rw [z 0 (by omega), z 1 (by omega), z 2 (by omega), z 6 (by omega), z 7 (by omega), z 8 (by omega), z 13 (by omega)]
    exact this
  · intro i hi
    have := h4 i hi
    have z : ∀ k, ¬ k = 5 → zU Y 5 0 v k = Y k := fun k hk => zU_off k hk
    rw [z 0 (by omega), z 1 (by omega), z 2 (by omega), z 3 (by omega), z 4 (by omega), z 9 (by omega), z 10 (by omega), z 11 (by omega), z 12 (by omega), z 13 (by omega), zU_ne (by omega)]
    exact this
theorem w_now {v : Int} (h : y_W Y) (hv : Y 5 1 ≤ v ∧ v ≤ 400000) : y_W (zU Y 5 1 v) := by
  obtain ⟨h1, h2, h3, h4⟩ := h
  refine ⟨by simpa [zU] using h1, ?_, ?_, ?_⟩
  · rw [zU_eq, zU_ne (by omega), zU_ne (by omega)]; omega
  · intro s hs
    have := h3 s hs
    have z : ∀ k, ¬ k = 5 → zU Y 5 1 v k = Y k := fun k hk => zU_off k hk
    rw [z 0 (by omega), z 1 (by omega), z 2 (by omega), z 6 (by omega), z 7 (by omega), z 8 (by omega), z 13 (by omega)]
    exact this
  · intro i hi
    have := h4 i hi
    have z : ∀ k, ¬ k = 5 → zU Y 5 1 v k = Y k := fun k hk => zU_off k hk
    rw [z 0 (by omega), z 1 (by omega), z 2 (by omega), z 3 (by omega), z 4 (by omega), z 9 (by omega), z 10 (by omega), z 11 (by omega), z 12 (by omega), z 13 (by omega), zU_eq]
    omega
theorem w_put (h : y_W Y) (he : 0 ≤ e ∧ e < Y 13 3) (ha : f_ahead Y e = -1) (hp : p = Y 13 0 ∨ (0 ≤ p ∧ p < Y 13 0 ∧ Y 1 p = -1)) : y_W (f_put Y e p) := by
  have h1 := w_out h he ha
  unfold f_put
  refine w_in h1.1 (by rw [f_out_13]; exact he) h1.2 ?_
  rw [f_out_13]
  rcases hp with hp | hp
  · exact Or.inl hp
  · refine Or.inr ⟨hp.1, hp.2.1, ?_⟩
    unfold f_out
    split
    · exact hp.2.2
    · split
      · rw [zU_ne (by omega), zU_ne (by omega)]; exact hp.2.2
      · rw [zU_ne (by omega)]
        simp only [zU]
        split
        · rfl
        · exact hp.2.2
theorem w_bring (h : y_W Y) (he : 0 ≤ e ∧ e < Y 13 3) (ha : f_ahead Y e = -1) (hp : p = Y 13 0 ∨ (0 ≤ p ∧ p < Y 13 0 ∧ Y 1 p = -1)) (ht : 0 ≤ t ∧ Y 5 1 + t ≤ 400000) : y_W (f_bring Y e p t) := by
  have w := h.1
  have h1 := w_put h he ha hp
  unfold f_bring
  refine w_now (w_tab h1 ?_) ?_
  · rw [f_put_13]; omega
  · rw [zU_ne (by omega), f_put_k (by omega)]; omega
theorem y_R_bring (h : y_R Y) : y_R (f_bring Y e p t) := by
  unfold y_R
  rw [f_bring_k (by omega) (by omega), f_bring_k (by omega) (by omega)]
  exact h
end
