-- needs 20.walks 30 31 32 34 35 36 37 38 39 21.s04
/-! one is sent out -/
section
variable {Y : zM} {e p t i : Int}
theorem f_put_2 : f_put Y e p 2 i = if i = e then (if p = Y 13 0 then -1 else p) else Y 2 i := by
  have ho : ∀ i, f_out Y e 2 i = if i = e then -1 else Y 2 i := by
    intro i
    unfold f_out
    by_cases q : Y 2 e = -1
    · rw [if_pos q]
      by_cases qi : i = e
      · rw [if_pos qi, qi, q]
      · rw [if_neg qi]
    · rw [if_neg q]
      by_cases qi : i = e
      · rw [if_pos qi, qi, zU_eq]
      · rw [if_neg qi, zU_ne (by omega)]
        split <;> rw [zU_ne (by omega)]
  unfold f_put f_in
  rw [f_out_13]
  by_cases qp : p = Y 13 0
  · rw [if_pos qp, if_pos qp, ho]
  · rw [if_neg qp, if_neg qp]
    by_cases qi : i = e
    · rw [if_pos qi, qi, zU_eq]
    · rw [if_neg qi, zU_ne (by omega)]
      split <;> rw [zU_ne (by omega), ho, if_neg qi]
theorem f_bring_2 : f_bring Y e p t 2 i = if i = e then (if p = Y 13 0 then -1 else p) else Y 2 i := by
  unfold f_bring
  rw [zU_ne (by omega), zU_ne (by omega), f_put_2]
theorem f_bring_50 : f_bring Y e p t 5 0 = p := by
  unfold f_bring
  rw [zU_ne (by omega), zU_eq]
theorem f_bring_51 : f_bring Y e p t 5 1 = Y 5 1 + t := by
  unfold f_bring
  rw [zU_eq]
theorem f_bring_13 : f_bring Y e p t 13 = Y 13 := f_bring_k (by omega) (by omega)
theorem f_side_b (h : y_W Y) (hs : f_side Y e p = true) (hp : 0 ≤ p ∧ p ≤ Y 13 0) : ¬ p = Y 2 e ∧ f_stand Y (f_ahead Y e) p = true ∧ (p = Y 13 0 ∨ (0 ≤ p ∧ p < Y 13 0 ∧ Y 1 p = -1)) := by
  unfold f_side at hs
  rw [Bool.and_eq_true, decide_eq_true_eq] at hs
  refine ⟨hs.1, hs.2, ?_⟩
  have h2 := hs.2
  unfold f_stand at h2
  rw [Bool.or_eq_true, decide_eq_true_eq] at h2
  rcases h2 with h2 | h2
  · exact Or.inl h2
  · by_cases q : p = Y 13 0
    · exact Or.inl q
    · refine Or.inr ⟨hp.1, by omega, ?_⟩
      unfold f_takes at h2
      rw [Bool.and_eq_true, Bool.and_eq_true, decide_eq_true_eq, decide_eq_true_eq] at h2
      exact h2.2.1
theorem f_to_b (h : y_W Y) (ha : ¬ f_ahead Y e = -1) (hf : f_frees Y e = true) : ¬ f_to Y e = -1 ∧ (0 ≤ f_to Y e ∧ f_to Y e ≤ Y 13 0) ∧ ¬ f_to Y e = Y 2 e ∧ (f_to Y e = Y 13 0 ∨ (0 ≤ f_to Y e ∧ f_to Y e < Y 13 0 ∧ Y 1 (f_to Y e) = -1)) := by
  have w := h.1
  have ht : ¬ f_to Y e = -1 := by
    unfold f_frees at hf
    simp [ha] at hf
    exact hf.2.2
  rcases f_to_is (by omega) ha with ⟨q, _⟩ | ⟨q1, q2, _⟩
  · exact absurd q ht
  · have := f_side_b h q2 (by omega)
    exact ⟨ht, by omega, this.1, this.2.2⟩
/-- the one that went aside: who stood behind it has nobody in front -/
theorem f_aside_ahead (h : y_W Y) (he : 0 ≤ e ∧ e < 12) (ha : ¬ f_ahead Y e = -1) (hp : ¬ p = Y 2 e) : f_ahead (f_bring Y (f_ahead Y e) p t) e = -1 ∧ f_bring Y (f_ahead Y e) p t 2 e = Y 2 e := by
  have b := f_ahead_b h he ha
  have h2 : f_bring Y (f_ahead Y e) p t 2 e = Y 2 e := by rw [f_bring_2, if_neg (by omega)]
  refine ⟨?_, h2⟩
  generalize hf : f_ahead Y e = f at *
  have hz : f_out Y f = zU (zU Y 1 (Y 2 e) (-1)) 2 f (-1) := by
    unfold f_out
    rw [if_neg (by omega), b.2.1, if_neg (by omega)]
  have h1 : f_bring Y f p t 1 (Y 2 e) = -1 := by
    unfold f_bring f_put f_in
    rw [zU_ne (by omega), zU_ne (by omega), hz]
    split
    · rw [zU_ne (by omega), zU_eq]
    · rw [zU_ne (by omega)]
      split
      · rw [zU_ne (by omega), zU_ne (by omega), zU_eq]
      · rw [zU_ne (by omega), zU_ne (by omega), zU_eq]
  unfold f_ahead
  rw [h2, h1]
  split <;> rfl
theorem f_point_eq (hp : ¬ Y 2 e = -1) : f_point Y e = Y 2 e := by unfold f_point; rw [if_neg hp]
theorem f_om_eq (h : y_W Y) (he : 0 ≤ e ∧ e < 12) (ha : ¬ f_ahead Y e = -1) (hto : ¬ f_to Y e = Y 2 e) : f_om Y e = f_min (f_bring Y (f_ahead Y e) (f_to Y e) t) (f_point (f_bring Y (f_ahead Y e) (f_to Y e) t) e) (Y 13 0) := by
  have b := f_ahead_b h he ha
  have h2 := (f_aside_ahead (p := f_to Y e) (t := t) h he ha hto).2
  rw [f_point_eq (by rw [h2]; exact b.2.2.1), h2]
  unfold f_om f_min
  rw [if_neg ha, f_bring_50, f_bring_13]
theorem f_am_eq (h : y_W Y) (he : 0 ≤ e ∧ e < 12) (ha : ¬ f_ahead Y e = -1) : f_am Y e = f_min Y (f_point Y (f_ahead Y e)) (f_to Y e) := by
  have b := f_ahead_b h he ha
  rw [f_point_eq (by rw [b.2.1]; exact b.2.2.1), b.2.1]
  unfold f_am
  rw [if_neg ha]
theorem f_am_b (h : y_W Y) (he : 0 ≤ e ∧ e < 12) (hf : f_frees Y e = true) : 0 ≤ f_am Y e ∧ f_am Y e ≤ 234 := by
  by_cases ha : f_ahead Y e = -1
  · unfold f_am; rw [if_pos ha]; omega
  · have b := f_ahead_b h he ha
    have b2 := f_to_b h ha hf
    unfold f_am
    rw [if_neg ha]
    exact f_min_b h (by omega) (by omega)
theorem w_aside (h : y_W Y) (he : 0 ≤ e ∧ e < 12) (ha : ¬ f_ahead Y e = -1) (hf : f_frees Y e = true) (hn : Y 5 1 ≤ 399000) : y_W (f_bring Y (f_ahead Y e) (f_to Y e) (f_am Y e)) := by
  have b := f_ahead_b h he ha
  have b2 := f_to_b h ha hf
  have b3 := f_am_b h he hf
  exact w_bring h b.1 (f_ahead_front h he ha) b2.2.2.2 (by omega)
theorem f_om_b (h : y_W Y) (he : 0 ≤ e ∧ e < 12) (hin : ¬ Y 2 e = -1) (hf : f_frees Y e = true) (hn : Y 5 1 ≤ 399000) : 0 ≤ f_om Y e ∧ f_om Y e ≤ 234 := by
  have w := h.1
  have w2 := (h.2.2.2 e he).2.1
  by_cases ha : f_ahead Y e = -1
  · unfold f_om; rw [if_pos ha]
    exact f_min_b h (by omega) (by omega)
  · have b := f_ahead_b h he ha
    have b2 := f_to_b h ha hf
    have W := w_aside h he ha hf hn
    rw [f_om_eq (t := f_am Y e) h he ha b2.2.2.1]
    have bp := f_point_b W he
    exact f_min_b W bp (by rw [f_bring_13]; omega)
theorem w_free (h : y_W Y) (he : 0 ≤ e ∧ e < Y 13 3) (hin : ¬ Y 2 e = -1) (hf : f_frees Y e = true) (hn : Y 5 1 ≤ 399000) : y_W (f_free Y e) ∧ f_free Y e 5 1 = Y 5 1 + (f_am Y e + f_om Y e) := by
  have w := h.1
  have he' : 0 ≤ e ∧ e < 12 := by omega
  have bo := f_om_b h he' hin hf hn
  have ba := f_am_b h he' hf
  unfold f_free
  by_cases ha : f_ahead Y e = -1
  · rw [if_pos ha]
    refine ⟨w_bring h he ha (Or.inl rfl) (by omega), ?_⟩
    rw [f_bring_51]
    unfold f_am
    rw [if_pos ha]; omega
  · rw [if_neg ha]
    have b2 := f_to_b h ha hf
    have W := w_aside h he' ha hf hn
    have aa := f_aside_ahead (p := f_to Y e) (t := f_am Y e) h he' ha b2.2.2.1
    refine ⟨w_bring W (by rw [f_bring_13]; exact he) aa.1 (Or.inl (by rw [f_bring_13])) (by rw [f_bring_51]; omega), ?_⟩
    rw [f_bring_51, f_bring_51]; omega
theorem f_free_k {k : Nat} (h : 3 ≤ k) (h5 : ¬ k = 5) : f_free Y e k = Y k := by
  unfold f_free
  split
  · rw [f_bring_k h h5]
  · rw [f_bring_k h h5, f_bring_k h h5]
theorem y_R_free (h : y_R Y) : y_R (f_free Y e) := by
  unfold y_R
  rw [f_free_k (by omega) (by omega), f_free_k (by omega) (by omega)]
  exact h
end
section
variable {g : zG} {d : Nat} {K : Option zV → zM → Prop} {μ : zM} {s o : Nat} {e a b x y : Int}
theorem c_sendOut (hd : 3 ≤ d) (hs : zs s) (hr : zrl μ) (hW : y_W (vC μ s)) (he : 0 ≤ e ∧ e < μ 5 0) (hin : ¬ μ (s + 3) e = -1) (hn : μ s 1 ≤ 399000) (hf : f_frees (vC μ s) e = true) (ht : μ 25 3 = f_to (vC μ s) e)
    (h : ∀ μ', (∀ j, ¬ (s ≤ j ∧ j ≤ s + 3) → μ' j = μ j) → vC μ' s = f_free (vC μ s) e → K none μ') : zCall g d 107 [.inr (.inr ((0, 10), 25)), .inr (.inr ((0, 7), s)), .inl e] μ K := by
  have h20 := zs_20 hs
  have w1 := w_env hW
  have he' : 0 ≤ e ∧ e < 12 := by omega
  have w2 := w_en hW he'
  have v2 : vC μ s 2 e = μ (s + 3) e := y_in he'
  have e13 : vC μ s 13 0 = μ 1 0 := by simp [vC, y_cl]
  have e133 : vC μ s 13 3 = μ 5 0 := by simp only [vC]; rfl
  have v51 : vC μ s 5 1 = μ s 1 := by simp [vC, y_cl]
  refine sX10_sendOut ⟨by omega, c_inFrontOf (by omega) he' (by omega) (zi ⟨fun qa => ?_, fun qa => ?_⟩)⟩
  · refine c_shift (by omega) h20 hr hW he' (by omega) (Or.inl rfl) (fun M hM hv => zi (h M hM ?_))
    rw [hv]
    unfold f_free f_om
    rw [if_pos qa, if_pos qa, f_point_eq (by omega), e13, Int.one_mul]
  · have fa := f_ahead_b hW he' qa
    have b2 := f_to_b hW qa hf
    refine c_shift (by omega) h20 hr hW (by omega) (by rw [ht]; omega) (Or.inl rfl) (fun M hM hv => zi ?_)
    have hs2 := hs
    unfold zs at hs2
    have rM : zrl M := zrl_same hr (hM 12 (by omega))
    have M1 : M 1 = μ 1 := hM 1 (by omega)
    rw [ht, Int.one_mul, ← f_am_eq hW he' qa] at hv
    have W := w_aside hW he' qa hf (by omega)
    refine c_shift (by omega) h20 rM (by rw [hv]; exact W) he' (by rw [M1]; omega) (Or.inl rfl) (fun N hN hvN => zi (h N (fun j hj => by rw [hN j hj, hM j hj]) ?_))
    rw [hvN, hv, M1, Int.one_mul, ← e13, ← f_om_eq hW he' qa b2.2.2.1]
    unfold f_free
    rw [if_neg qa]
end
