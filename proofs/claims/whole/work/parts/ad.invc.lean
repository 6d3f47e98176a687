-- needs ac
/-! what is true of the state stays true: shut, set, end, comes, leaves -/
section
variable {n x v e t : Int} {S : zS} {r : List Int}
theorem zk_hi {Y X : zM} {i k0 : Nat} {j0 v0 : Int} (h : 6 ≤ k0) : z_kept (zU Y k0 j0 v0) X i = zU (z_kept Y X i) k0 j0 v0 := by
  funext k j
  by_cases q : k = k0
  · subst q
    by_cases q2 : j = j0
    · subst q2
      rw [zU_eq]
      unfold z_kept
      rw [if_neg (by omega), zU_eq]
    · rw [zU_ne (by omega)]
      unfold z_kept
      rw [if_neg (by omega), if_neg (by omega), zU_ne (by omega)]
  · rw [zU_ne (by omega)]
    unfold z_kept
    rw [zU_ne (by omega)]
theorem w_8 {Y : zM} {b : Int} (h : y_W Y) (hb : b = 0 ∨ b = 1) : y_W (zU Y 8 x b) := by
  obtain ⟨a1, a2, a3, a4⟩ := h
  refine ⟨a1, a2, fun s hs => ?_, a4⟩
  obtain ⟨c1, c2⟩ := a3 s hs
  refine ⟨?_, c2⟩
  show 10 ≤ Y 6 s ∧ Y 6 s ≤ 60 ∧ 0 ≤ Y 7 s ∧ Y 7 s ≤ 3 ∧ (zU Y 8 x b 8 s = 0 ∨ zU Y 8 x b 8 s = 1)
  by_cases q : s = x
  · rw [q] at c1 ⊢
    rw [zU_eq]
    omega
  · rw [zU_ne (by omega)]
    exact c1
theorem i_shut {b : Int} (hb : b = 0 ∨ b = 1) (h : iS n S) (hn : n + 1 ≤ 512) : iS (n + 1) (o_shut S x b).2 := by
  have h' := h.up hn
  unfold o_shut
  split
  · refine h'.yd (w_8 h.W hb) h.R ?_ rfl (fun i _ hk => ?_)
    · exact h'.2.1.2.2
    · rw [zk_hi (by omega)]
      exact w_8 hk hb
  · exact h'
theorem w_131 {Y : zM} (h : y_W Y) (hv : 1 ≤ v ∧ v ≤ 9) : y_W (zU Y 13 1 v) := by
  obtain ⟨a1, a2, a3, a4⟩ := h
  refine ⟨?_, a2, a3, a4⟩
  show 4 ≤ Y 13 0 ∧ Y 13 0 ≤ 23 ∧ 1 ≤ zU Y 13 1 v 13 1 ∧ zU Y 13 1 v 13 1 ≤ 9 ∧ 0 ≤ Y 13 2 ∧ Y 13 2 ≤ 9 ∧ 0 ≤ Y 13 3 ∧ Y 13 3 ≤ 12
  rw [zU_eq]
  omega
theorem w_132 {Y : zM} (h : y_W Y) (hv : 0 ≤ v ∧ v ≤ 9) : y_W (zU Y 13 2 v) := by
  obtain ⟨a1, a2, a3, a4⟩ := h
  refine ⟨?_, a2, a3, a4⟩
  show 4 ≤ Y 13 0 ∧ Y 13 0 ≤ 23 ∧ 1 ≤ Y 13 1 ∧ Y 13 1 ≤ 9 ∧ 0 ≤ zU Y 13 2 v 13 2 ∧ zU Y 13 2 v 13 2 ≤ 9 ∧ 0 ≤ Y 13 3 ∧ Y 13 3 ≤ 12
  rw [zU_eq]
  omega
theorem i_set (h : iS n S) (hn : n + 1 ≤ 512) : iS (n + 1) (o_set S x v).2 := by
  have h' := h.up hn
  unfold o_set
  split
  · rename_i q
    refine h'.yd (w_131 h.W q.2) h.R ?_ rfl (fun i _ hk => ?_)
    · exact h'.2.1.2.2
    · rw [zk_hi (by omega)]
      exact w_131 hk q.2
  · split
    · rename_i q
      refine h'.yd (w_132 h.W q.2) h.R ?_ rfl (fun i _ hk => ?_)
      · exact h'.2.1.2.2
      · rw [zk_hi (by omega)]
        exact w_132 hk q.2
    · exact h'
theorem i_end (h : iS n S) (hn : n + 1 ≤ 512) : iS (n + 1) (o_end S x).2 := by
  have h' := h.up hn
  unfold o_end
  split
  · obtain ⟨h1, h2, ⟨a1, a2⟩, h4⟩ := h'
    refine ⟨h1, h2, ⟨?_, fun v hv => a2 v (List.mem_of_mem_take hv)⟩, h4⟩
    show (S.2.1.take x.toNat).length ≤ 60
    rw [List.length_take]
    omega
  · exact h'
theorem i_comes (h : iS n S) (hn : n + 1 ≤ 512) : iS (n + 1) (o_comes S e).2 := by
  have h' := h.up hn
  unfold o_comes
  split
  · rename_i q
    obtain ⟨h1, h2, h3, h4, ⟨b1, b2, b3, b4, b5⟩, h6⟩ := h'
    refine ⟨h1, h2, h3, h4, ⟨?_, ?_, fun y hy => ?_, b4, fun y hy => List.mem_append_left _ (b5 y hy)⟩, h6⟩
    · show (zc S ++ [e]).length ≤ 6
      rw [List.length_append]
      have := q.2.2.1
      simp
      omega
    · refine List.nodup_append.mpr ⟨b2, by simp, fun a ha b hb => ?_⟩
      rw [List.mem_singleton.1 hb]
      exact fun z => q.2.2.2 (by rw [← z]; exact ha)
    · rcases List.mem_append.1 hy with z | z
      · exact b3 y z
      · rw [List.mem_singleton.1 z]
        exact q.1
  · exact h'
theorem i_leaves (h : iS n S) (hn : n + 1 ≤ 512) : iS (n + 1) (o_leaves S e).2 := by
  have h' := h.up hn
  unfold o_leaves
  split
  · rename_i q
    obtain ⟨h1, h2, h3, h4, ⟨b1, b2, b3, b4, b5⟩, h6⟩ := h'
    refine ⟨h1, h2, h3, h4, ⟨b1, b2, b3, ?_, fun y hy => ?_⟩, h6⟩
    · refine List.nodup_append.mpr ⟨b4, by simp, fun a ha b hb => ?_⟩
      rw [List.mem_singleton.1 hb]
      exact fun z => q.2 (by rw [← z]; exact ha)
    · rcases List.mem_append.1 hy with z | z
      · exact b5 y z
      · rw [List.mem_singleton.1 z]
        exact q.1
  · exact h'
end
