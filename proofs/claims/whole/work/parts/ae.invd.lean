-- needs ad
/-! what is true of the state stays true: move, drag, inside -/
section
variable {n x v e b p t : Int} {S : zS} {Y : zM}
theorem bring_hi {k : Nat} (hk : 6 ≤ k) : f_bring Y e p t k = Y k := by
  have o : f_out Y e k = Y k := by
    unfold f_out
    split
    · rfl
    · rw [zU_off k (by omega)]
      split <;> rw [zU_off k (by omega)]
  unfold f_bring
  rw [zU_off k (by omega), zU_off k (by omega)]
  unfold f_put f_in
  split
  · exact o
  · rw [zU_off k (by omega)]
    split <;> rw [zU_off k (by omega)] <;> exact o
theorem can_hp (h : f_can Y e p = true) (hp : 0 ≤ p ∧ p ≤ Y 13 0) : f_ahead Y e = -1 ∧ (p = Y 13 0 ∨ (0 ≤ p ∧ p < Y 13 0 ∧ Y 1 p = -1)) := by
  unfold f_can f_stand at h
  rw [Bool.and_eq_true, Bool.and_eq_true, Bool.or_eq_true, decide_eq_true_eq, decide_eq_true_eq, decide_eq_true_eq] at h
  refine ⟨h.2.1, ?_⟩
  rcases h.2.2 with q | q
  · exact Or.inl q
  · unfold f_takes at q
    rw [Bool.and_eq_true, Bool.and_eq_true, decide_eq_true_eq, decide_eq_true_eq] at q
    by_cases z : p = Y 13 0
    · exact Or.inl z
    · exact Or.inr ⟨hp.1, by omega, q.2.1⟩
theorem i_bring (h : iS n S) (hn : n + 1 ≤ 512) (he : 0 ≤ e ∧ e < S.1 13 3) (hp : 0 ≤ p ∧ p ≤ S.1 13 0) (hc : f_can S.1 e p = true) (ht : 0 ≤ t ∧ t ≤ 600) : iS (n + 1) (sY S (f_bring S.1 e p t)) := by
  have h' := h.up hn
  have now := h.now
  have tn := h.2.1.2.2
  obtain ⟨c1, c2⟩ := can_hp hc hp
  have e5 : f_bring S.1 e p t 5 1 = S.1 5 1 + t := by unfold f_bring; rw [zU_eq]
  refine h'.yd (w_bring h.W he c1 c2 (by omega)) ?_ (by omega) (by rw [bring_hi (by omega)]) (fun i _ hk => ?_)
  · have := h.R
    unfold y_R at *
    rw [bring_hi (by omega), bring_hi (by omega)]
    exact this
  · rw [zk_lo (fun k hk2 => bring_hi hk2)]
    exact hk
theorem i_pt (h : iS n S) (he : 0 ≤ e ∧ e < S.1 13 3) : 0 ≤ f_point S.1 e ∧ f_point S.1 e ≤ S.1 13 0 := by
  have w := h.env
  have := (h.W.2.2.2 e (by omega)).2.1
  unfold f_point
  split <;> omega
theorem i_move (h : iS n S) (hn : n + 1 ≤ 512) : iS (n + 1) (o_move S e p).2 := by
  unfold o_move
  split
  · rename_i q
    have := f_min_b h.W (i_pt h q.1) q.2.1
    exact i_bring h hn q.1 q.2.1 q.2.2.2 (by omega)
  · exact h.up hn
theorem i_inside (h : iS n S) (hn : n + 1 ≤ 512) : iS (n + 1) (o_inside S x).2 := by
  unfold o_inside
  split
  · refine h.ur hn ?_
    unfold f_inr
    rw [List.length_append]
    split <;> split <;> simp
  · exact h.up hn
end
