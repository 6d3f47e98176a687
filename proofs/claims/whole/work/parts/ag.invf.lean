-- needs af
/-! what is true of the state stays true: plan -/
section
variable {n e t : Int} {S : zS}
theorem i_plan (h : iS n S) (hn : n + 1 ≤ 512) : iS (n + 1) (o_plan S t e).2 := by
  have h' := h.up hn
  unfold o_plan
  split
  · rename_i q
    obtain ⟨h1, h2, h3, h4, h5, h6, ⟨b1, b2, b3, b4⟩, h8⟩ := h'
    have b1' : 0 ≤ zX S 8 0 ∧ zX S 8 0 ≤ 8 := b1
    have key : ∀ j : Int, 0 ≤ j ∧ j < zX S 8 0 → ¬ j = t → ¬ e = -1 → ¬ e = zX S 7 j := by
      intro j hj jt en ej
      have q2 := (q.2.resolve_left en).2
      have hs := zsr_b (zX S 7) e (zX S 8 0).toNat 0
      have ef : f_tof (zX S) e = zsr (zX S 7) e (zX S 8 0).toNat 0 := rfl
      rw [← ef] at hs
      rcases hs with ⟨_, s2⟩ | ⟨s1, s2, s3⟩
      · refine s2 j.toNat (by omega) (by omega) ?_
        rw [show ((j.toNat : Nat) : Int) = j from by omega]
        exact ej.symm
      · have ft : f_tof (zX S) e = t := by
          rcases q2 with z | z
          · omega
          · exact z
        rw [ft] at s3
        have e7 : zX S 7 t = zX S 7 j := by rw [s3]; exact ej
        exact jt (b4 t j q.1 hj (by show ¬ zX S 7 t = -1; rw [s3]; exact en) e7).symm
    refine ⟨h1, h2, h3, h4, h5, h6, ⟨b1, fun i hi => ⟨(b2 i hi).1, ?_⟩, fun i hi => ?_, fun i j hi hj ni ij => ?_⟩, iK_c h8 (fun k hk => by
      show zU (zX S) 7 t e k = zX S k
      rw [zU_off k (by omega)])⟩
    · show -1 ≤ zU (zX S) 7 t e 7 i ∧ zU (zX S) 7 t e 7 i < S.1 13 3
      by_cases z : i = t
      · rw [z, zU_eq]
        have w := h.env
        rcases q.2 with y | y
        · omega
        · omega
      · rw [zU_ne (by omega)]
        exact (b2 i hi).2
    · show zU (zX S) 7 t e 7 i = -1
      have hi : zX S 8 0 ≤ i ∧ i < 8 := hi
      rw [zU_ne (by omega)]
      exact b3 i hi
    · have hi : 0 ≤ i ∧ i < zX S 8 0 := hi
      have hj : 0 ≤ j ∧ j < zX S 8 0 := hj
      have ni : ¬ zU (zX S) 7 t e 7 i = -1 := ni
      have ij : zU (zX S) 7 t e 7 i = zU (zX S) 7 t e 7 j := ij
      by_cases z : i = t
      · by_cases y : j = t
        · rw [z, y]
        · rw [z, zU_eq] at ni ij
          rw [zU_ne (by omega)] at ij
          exact absurd ij (key j hj y ni)
      · rw [zU_ne (by omega)] at ni ij
        by_cases y : j = t
        · rw [y, zU_eq] at ij
          exact absurd ij.symm (key i hi z (by rw [← ij]; exact ni))
        · rw [zU_ne (by omega)] at ij
          exact b4 i j hi hj ni ij
  · exact h'
end
