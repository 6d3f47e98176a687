-- needs ak
/-! what is true of the state stays true: engine, ring, sheet, sign -/
section
variable {n x y z b v k m f st : Int} {S : zS} {Y : zM}
theorem w_eng (h : y_W Y) (hx : 5 ≤ x ∧ x ≤ 30) (hy : 0 ≤ y ∧ y ≤ 5) (hz : 0 ≤ z ∧ z ≤ 600) (hb : b = 0 ∨ b = 1) (h13 : Y 13 3 < 12) : y_W (f_eng Y x y z b) := by
  obtain ⟨F, hF⟩ : ∃ F, f_eng Y x y z b = F := ⟨_, rfl⟩
  have lo : ∀ k, k ≤ 8 → F k = Y k := fun k hk => by
    rw [← hF]
    unfold f_eng
    rw [zU_off k (by omega), zU_off k (by omega), zU_off k (by omega), zU_off k (by omega), zU_off k (by omega)]
  have f13 : ∀ i, ¬ i = 3 → F 13 i = Y 13 i := fun i hi => by
    rw [← hF]
    unfold f_eng
    rw [zU_ne (by omega), zU_off 13 (by omega), zU_off 13 (by omega), zU_off 13 (by omega), zU_off 13 (by omega)]
  have f133 : F 13 3 = Y 13 3 + 1 := by
    rw [← hF]
    unfold f_eng
    rw [zU_eq]
  have fe : F 9 (Y 13 3) = x ∧ F 10 (Y 13 3) = y ∧ F 11 (Y 13 3) = z ∧ F 12 (Y 13 3) = b := by
    rw [← hF]
    unfold f_eng
    refine ⟨?_, ?_, ?_, ?_⟩
    · rw [zU_off 9 (by omega), zU_off 9 (by omega), zU_off 9 (by omega), zU_off 9 (by omega), zU_eq]
    · rw [zU_off 10 (by omega), zU_off 10 (by omega), zU_off 10 (by omega), zU_eq]
    · rw [zU_off 11 (by omega), zU_off 11 (by omega), zU_eq]
    · rw [zU_off 12 (by omega), zU_eq]
  have fo : ∀ i, ¬ i = Y 13 3 → F 9 i = Y 9 i ∧ F 10 i = Y 10 i ∧ F 11 i = Y 11 i ∧ F 12 i = Y 12 i := fun i hi => by
    rw [← hF]
    unfold f_eng
    refine ⟨?_, ?_, ?_, ?_⟩
    · rw [zU_off 9 (by omega), zU_off 9 (by omega), zU_off 9 (by omega), zU_off 9 (by omega), zU_ne (by omega)]
    · rw [zU_off 10 (by omega), zU_off 10 (by omega), zU_off 10 (by omega), zU_ne (by omega), zU_off 10 (by omega)]
    · rw [zU_off 11 (by omega), zU_off 11 (by omega), zU_ne (by omega), zU_off 11 (by omega), zU_off 11 (by omega)]
    · rw [zU_off 12 (by omega), zU_ne (by omega), zU_off 12 (by omega), zU_off 12 (by omega), zU_off 12 (by omega)]
  rw [hF]
  obtain ⟨a1, a2, a3, a4⟩ := h
  unfold y_W
  rw [f13 0 (by omega), f13 1 (by omega), f13 2 (by omega), f133, lo 0 (by omega), lo 1 (by omega), lo 2 (by omega), lo 3 (by omega), lo 4 (by omega), lo 5 (by omega), lo 6 (by omega), lo 7 (by omega), lo 8 (by omega)]
  refine ⟨by omega, a2, fun s hs => ?_, fun e he => ?_⟩
  · obtain ⟨c1, c2, c3⟩ := a3 s hs
    exact ⟨c1, by omega, c3⟩
  · obtain ⟨c1, c2, c3, c4⟩ := a4 e he
    refine ⟨?_, c2, c3, fun q => c4 (by omega)⟩
    by_cases q : e = Y 13 3
    · rw [q, fe.1, fe.2.1, fe.2.2.1, fe.2.2.2]
      rw [q] at c1
      omega
    · obtain ⟨o1, o2, o3, o4⟩ := fo e q
      rw [o1, o2, o3, o4]
      exact c1
theorem i_engine (hb : b = 0 ∨ b = 1) (h : iS n S) (hn : n + 1 ≤ 512) : iS (n + 1) (o_engine S x y z b).2 := by
  have tn := h.2.1.2.2
  unfold o_engine
  by_cases q : (5 ≤ x ∧ x ≤ 30) ∧ (0 ≤ y ∧ y ≤ 5) ∧ (0 ≤ z ∧ z ≤ 600) ∧ S.1 13 3 < 12
  · rw [if_pos q]
    refine h.vd hn (w_eng h.W q.1 q.2.1 q.2.2.1 hb q.2.2.2) ?_ ?_ ?_
    · exact h.R
    · show S.1 5 1 ≤ 600 * (n + 1)
      omega
    · unfold f_eng
      rw [zU_eq]
      omega
  · rw [if_neg q]
    exact h.up hn
theorem w_ring (h : y_W Y) (hx : 4 ≤ x ∧ x ≤ 23) (h0 : f_ins Y = 0) : y_W (f_ring Y x) := by
  have s0 := f_ins_0 h h0
  have e0 : ∀ e : Int, 0 ≤ e ∧ e < 12 → Y 2 e = -1 := fun e he => by
    have := f_ins_t (Y := Y) e.toNat
    rw [h0, show ((e.toNat : Nat) : Int) = e from by omega] at this
    rcases Int.lt_or_le (Y 2 e) (-1) with z | z
    · have := (h.2.2.2 e he).2.1
      omega
    · by_cases z2 : Y 2 e = -1
      · exact z2
      · have := this.2 ⟨by omega, z2⟩
        rw [Nat.zero_testBit] at this
        cases this
  obtain ⟨F, hF⟩ : ∃ F, f_ring Y x = F := ⟨_, rfl⟩
  have f6 : ∀ s, 0 ≤ s ∧ s < 23 → F 6 s = 30 ∧ F 7 s = 3 ∧ F 8 s = 0 := fun s hs => by
    rw [← hF]
    unfold f_ring
    refine ⟨?_, ?_, ?_⟩
    · rw [if_pos rfl, y_in hs]
    · rw [if_neg (by omega), if_pos rfl, y_in hs]
    · rw [if_neg (by omega), if_neg (by omega), if_pos rfl, y_in hs]
  have f13 : F 13 0 = x ∧ F 5 0 = x ∧ F 13 1 = Y 13 1 ∧ F 13 2 = Y 13 2 ∧ F 13 3 = Y 13 3 ∧ F 5 1 = Y 5 1 := by
    rw [← hF]
    unfold f_ring
    simp
  have lo : ∀ k, k ≤ 12 → ¬ (5 ≤ k ∧ k ≤ 8) → F k = Y k := fun k hk hk2 => by
    rw [← hF]
    funext i
    unfold f_ring
    rw [if_neg (by omega), if_neg (by omega), if_neg (by omega), if_neg (by omega), if_neg (by omega)]
  rw [hF]
  obtain ⟨a1, a2, a3, a4⟩ := h
  unfold y_W
  rw [f13.1, f13.2.1, f13.2.2.1, f13.2.2.2.1, f13.2.2.2.2.1, f13.2.2.2.2.2, lo 0 (by omega) (by omega), lo 1 (by omega) (by omega), lo 2 (by omega) (by omega), lo 3 (by omega) (by omega), lo 4 (by omega) (by omega), lo 9 (by omega) (by omega), lo 10 (by omega) (by omega), lo 11 (by omega) (by omega), lo 12 (by omega) (by omega)]
  refine ⟨by omega, by omega, fun s hs => ?_, fun e he => ?_⟩
  · obtain ⟨c1, c2, c3⟩ := a3 s hs
    obtain ⟨g1, g2, g3⟩ := f6 s hs
    rw [g1, g2, g3]
    exact ⟨by omega, c2, c3⟩
  · obtain ⟨c1, c2, c3, c4⟩ := a4 e he
    have := e0 e he
    exact ⟨c1, by omega, c3, c4⟩
theorem i_ring (h : iS n S) (hn : n + 1 ≤ 512) : iS (n + 1) (o_ring S x).2 := by
  have tn := h.2.1.2.2
  unfold o_ring
  by_cases q : (4 ≤ x ∧ x ≤ 23) ∧ f_ins S.1 = 0
  · rw [if_pos q]
    refine h.vd hn (w_ring h.W q.1 q.2) ?_ ?_ ?_
    · have := h.R
      have e14 : f_ring S.1 x 14 = S.1 14 := by
        funext i
        unfold f_ring
        simp
      have e15 : f_ring S.1 x 15 = S.1 15 := by
        funext i
        unfold f_ring
        simp
      unfold y_R at *
      rw [e14, e15]
      exact this
    · have : f_ring S.1 x 5 1 = S.1 5 1 := by unfold f_ring; simp
      rw [this]
      omega
    · have : f_ring S.1 x 13 3 = S.1 13 3 := by unfold f_ring; simp
      rw [this]
      exact Int.le_refl _
  · rw [if_neg q]
    exact h.up hn
theorem w_sheet (h : y_W Y) : y_W (f_sheet Y k m f st) := by
  obtain ⟨F, hF⟩ : ∃ F, f_sheet Y k m f st = F := ⟨_, rfl⟩
  have lo : ∀ p, ¬ p = 6 → F p = Y p := fun p hp => by
    rw [← hF]
    funext i
    unfold f_sheet
    rw [if_neg (by omega)]
  have f6 : ∀ s, F 6 s = Y 6 s ∨ (10 ≤ F 6 s ∧ F 6 s ≤ 60) := fun s => by
    rw [← hF]
    unfold f_sheet
    by_cases q : (6 : Nat) = 6 ∧ 0 ≤ s ∧ s < Y 13 0
    · rw [if_pos q]
      exact Or.inr (f_sl_b _ _ _ _ _)
    · rw [if_neg q]
      exact Or.inl rfl
  rw [hF]
  obtain ⟨a1, a2, a3, a4⟩ := h
  unfold y_W
  rw [lo 0 (by omega), lo 1 (by omega), lo 2 (by omega), lo 3 (by omega), lo 4 (by omega), lo 5 (by omega), lo 7 (by omega), lo 8 (by omega), lo 9 (by omega), lo 10 (by omega), lo 11 (by omega), lo 12 (by omega), lo 13 (by omega)]
  refine ⟨a1, a2, fun s hs => ?_, a4⟩
  obtain ⟨c1, c2⟩ := a3 s hs
  have := f6 s
  exact ⟨by omega, c2⟩
theorem i_sheet (h : iS n S) (hn : n + 1 ≤ 512) : iS (n + 1) (o_sheet S k m f st).2 := by
  have tn := h.2.1.2.2
  have key : iS (n + 1) (sV (sY S (f_sheet S.1 k m f st))) := by
    have lo : ∀ p, ¬ p = 6 → f_sheet S.1 k m f st p = S.1 p := fun p hp => by
      funext i
      unfold f_sheet
      rw [if_neg (by omega)]
    refine h.vd hn (w_sheet h.W) ?_ ?_ ?_
    · have := h.R
      unfold y_R at *
      rw [lo 14 (by omega), lo 15 (by omega)]
      exact this
    · rw [lo 5 (by omega)]
      omega
    · rw [lo 13 (by omega)]
      exact Int.le_refl _
  unfold o_sheet
  by_cases q : (0 ≤ k ∧ k ≤ 3) ∧ m ≤ S.1 13 0 ∧ f_ins S.1 = 0
  · rw [if_pos q]
    by_cases q2 : k = 3
    · rw [if_pos q2]
      exact key
    · rw [if_neg q2]
      by_cases q3 : m < 0
      · rw [if_pos q3]
        exact h.up hn
      · rw [if_neg q3]
        exact key
  · rw [if_neg q]
    exact h.up hn
theorem b_by_b (v : Int) (k : Nat) (hk : k ≤ 24) : 0 ≤ b_by v (k : Int) ∧ b_by v (k : Int) < 256 := by
  obtain ⟨b, h1, h2, _⟩ := z_by v k hk
  unfold b_by
  rw [h2]
  omega
theorem i_sign (h : iS n S) (hn : n + 1 ≤ 512) : iS (n + 1) (o_sign S v).2 := by
  have h' := h.up hn
  unfold o_sign
  by_cases q : S.2.1.length + 4 ≤ 60
  · rw [if_pos q]
    obtain ⟨h1, h2, ⟨a1, a2⟩, h4⟩ := h'
    refine ⟨h1, h2, ⟨?_, fun w hw => ?_⟩, h4⟩
    · show (S.2.1 ++ [b_by v 24] ++ [b_by v 16] ++ [b_by v 8] ++ [b_by v 0]).length ≤ 60
      rw [List.length_append, List.length_append, List.length_append, List.length_append]
      exact q
    · have hw : w ∈ S.2.1 ++ [b_by v 24] ++ [b_by v 16] ++ [b_by v 8] ++ [b_by v 0] := hw
      rcases List.mem_append.1 hw with hw | z
      · rcases List.mem_append.1 hw with hw | z
        · rcases List.mem_append.1 hw with hw | z
          · rcases List.mem_append.1 hw with hw | z
            · exact a2 w hw
            · rw [List.mem_singleton.1 z]
              exact b_by_b v 24 (by omega)
          · rw [List.mem_singleton.1 z]
            exact b_by_b v 16 (by omega)
        · rw [List.mem_singleton.1 z]
          exact b_by_b v 8 (by omega)
      · rw [List.mem_singleton.1 z]
        exact b_by_b v 0 (by omega)
  · rw [if_neg q]
    exact h'
end
