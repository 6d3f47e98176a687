-- needs ah
/-! what is true of the state stays true: keep -/
section
variable {n x : Int} {S : zS}
theorem i_keep (h : iS n S) (hn : n + 1 ≤ 512) : iS (n + 1) (o_keep S x).2 := by
  have h' := h.up hn
  unfold o_keep
  split
  · rename_i q
    obtain ⟨i, ei⟩ : ∃ i : Nat, x.toNat = i := ⟨_, rfl⟩
    have i3 : i < 3 := by omega
    rw [ei]
    obtain ⟨h1, h2, h3, h4, h5, h6, h7, k1, k2⟩ := h'
    obtain ⟨X', eX⟩ : ∃ X', x_keep S.1 (zX S) i = X' := ⟨_, rfl⟩
    have lo : ∀ k, k ≤ 8 → X' k = zX S k := fun k hk => by rw [← eX]; exact x_keep_low hk
    rw [eX]
    have e9 : X' 9 (i : Int) = zX S 8 1 := by
      rw [← eX]
      unfold x_keep
      rw [if_pos ⟨rfl, rfl⟩]
    have e9o : ∀ j : Nat, ¬ j = i → X' 9 (j : Int) = zX S 9 (j : Int) := fun j hj => by
      rw [← eX]
      unfold x_keep
      rw [if_neg (by omega), if_neg (by omega)]
    have e10 : ∀ k, k < 6 → X' (10 + 6 * i + k) = S.1 k := fun k hk => by
      rw [← eX]
      funext y
      unfold x_keep
      rw [if_neg (by omega), if_pos (by omega), show 10 + 6 * i + k - (10 + 6 * i) = k from by omega]
    have e10o : ∀ (j k : Nat), ¬ j = i → k < 6 → X' (10 + 6 * j + k) = zX S (10 + 6 * j + k) := fun j k hj hk => by
      rw [← eX]
      funext y
      unfold x_keep
      rw [if_neg (by omega), if_neg (by omega)]
    have k1 : 0 ≤ zX S 8 1 ∧ zX S 8 1 ≤ n + 1 := k1
    refine ⟨h1, h2, h3, h4, h5, ?_, ?_, ?_, fun j hj => ?_⟩
    · show iO X'
      unfold iO
      rw [lo 0 (by omega), lo 1 (by omega), lo 2 (by omega), lo 3 (by omega)]
      exact h6
    · show iN S.1 X'
      unfold iN
      rw [lo 4 (by omega), lo 5 (by omega), lo 6 (by omega), lo 7 (by omega), lo 8 (by omega)]
      exact h7
    · show 0 ≤ X' 8 1 ∧ X' 8 1 ≤ n + 1
      rw [lo 8 (by omega)]
      exact k1
    · show (-1 ≤ X' 9 (j : Int) ∧ X' 9 (j : Int) ≤ X' 8 1) ∧ (X' 9 (j : Int) = X' 8 1 → y_W (z_kept S.1 X' j) ∧ X' (10 + 6 * j + 5) 1 ≤ 600 * (n + 1))
      rw [lo 8 (by omega)]
      by_cases t : j = i
      · subst t
        have zk : z_kept S.1 X' j = S.1 := by
          funext k y
          unfold z_kept
          by_cases z : k < 6
          · rw [if_pos z, e10 k z]
          · rw [if_neg z]
        rw [e9, zk, e10 5 (by omega)]
        exact ⟨by omega, fun _ => ⟨h.W, h2.2.2⟩⟩
      · have zk : z_kept S.1 X' j = z_kept S.1 (zX S) j := by
          funext k y
          unfold z_kept
          by_cases z : k < 6
          · rw [if_pos z, if_pos z, e10o j k t z]
          · rw [if_neg z, if_neg z]
        rw [e9o j t, zk, e10o j 5 t (by omega)]
        exact k2 j hj
  · exact h'
end
