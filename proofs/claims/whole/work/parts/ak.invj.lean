-- needs aj
/-! what is true of the state stays true: stall -/
section
variable {n x y z : Int} {S : zS}
theorem i_stall (h : iS n S) (hn : n + 1 ≤ 512) : iS (n + 1) (o_stall S x y z).2 := by
  unfold o_stall
  split
  · rename_i q
    refine h.vd hn ?_ h.R ?_ (Int.le_refl _)
    · obtain ⟨a1, a2, a3, a4⟩ := h.W
      refine ⟨a1, a2, fun s hs => ?_, a4⟩
      obtain ⟨c1, c2⟩ := a3 s hs
      refine ⟨?_, c2⟩
      show 10 ≤ zU (zU S.1 6 x y) 7 x z 6 s ∧ zU (zU S.1 6 x y) 7 x z 6 s ≤ 60 ∧ 0 ≤ zU (zU S.1 6 x y) 7 x z 7 s ∧ zU (zU S.1 6 x y) 7 x z 7 s ≤ 3 ∧ (S.1 8 s = 0 ∨ S.1 8 s = 1)
      rw [zU_off 6 (by omega)]
      by_cases t : s = x
      · rw [t] at c1 ⊢
        rw [zU_eq, zU_eq]
        omega
      · rw [zU_ne (by omega), zU_ne (by omega), zU_off 7 (by omega)]
        exact c1
    · show S.1 5 1 ≤ 600 * (n + 1)
      have := h.2.1.2.2
      omega
  · exact h.up hn
end
