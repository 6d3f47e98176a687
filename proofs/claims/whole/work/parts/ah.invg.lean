-- needs ag
/-! what is true of the state stays true: train -/
section
variable {n x y z : Int} {S : zS}
theorem iK_c2 {Y X X' : zM} (h : iK n Y X) (e8 : X' 8 1 = X 8 1) (e : ∀ k, 9 ≤ k → X' k = X k) : iK n Y X' := by
  have zk : ∀ i, z_kept Y X' i = z_kept Y X i := fun i => by
    funext k j
    unfold z_kept
    rw [e (10 + 6 * i + k) (by omega)]
  unfold iK at *
  rw [e8, e 9 (by omega)]
  refine ⟨h.1, fun i hi => ?_⟩
  rw [zk i, e (10 + 6 * i + 5) (by omega)]
  exact h.2 i hi
theorem i_train (h : iS n S) (hn : n + 1 ≤ 512) : iS (n + 1) (o_train S x y z).2 := by
  have h' := h.up hn
  have w := h.env
  unfold o_train
  split
  · rename_i q
    obtain ⟨h1, h2, h3, h4, h5, h6, ⟨b1, b2, b3, b4⟩, h8⟩ := h'
    have b1 : 0 ≤ zX S 8 0 ∧ zX S 8 0 ≤ 8 := b1
    obtain ⟨m, em⟩ : ∃ m, zX S 8 0 = m := ⟨_, rfl⟩
    obtain ⟨X', eX⟩ : ∃ X', x_train (zX S) x y z = X' := ⟨_, rfl⟩
    have e8 : X' 8 0 = m + 1 := by rw [← eX, ← em]; unfold x_train; rw [zU_eq]
    have e7 : X' 7 = zX S 7 := by rw [← eX]; unfold x_train; rw [zU_off 7 (by omega), zU_off 7 (by omega), zU_off 7 (by omega), zU_off 7 (by omega)]
    have en : X' 4 m = x ∧ X' 5 m = y ∧ X' 6 m = z := by
      rw [← eX, ← em]
      unfold x_train
      refine ⟨?_, ?_, ?_⟩
      · rw [zU_off 4 (by omega), zU_off 4 (by omega), zU_off 4 (by omega), zU_eq]
      · rw [zU_off 5 (by omega), zU_off 5 (by omega), zU_eq]
      · rw [zU_off 6 (by omega), zU_eq]
    have eo : ∀ i, ¬ i = m → X' 4 i = zX S 4 i ∧ X' 5 i = zX S 5 i ∧ X' 6 i = zX S 6 i := fun i hi => by
      rw [← eX]
      unfold x_train
      rw [em]
      refine ⟨?_, ?_, ?_⟩
      · rw [zU_off 4 (by omega), zU_off 4 (by omega), zU_off 4 (by omega), zU_ne (by omega)]
      · rw [zU_off 5 (by omega), zU_off 5 (by omega), zU_ne (by omega), zU_off 5 (by omega)]
      · rw [zU_off 6 (by omega), zU_ne (by omega), zU_off 6 (by omega), zU_off 6 (by omega)]
    have eo3 : ∀ k, k ≤ 3 → X' k = zX S k := fun k hk => by
      rw [← eX]
      unfold x_train
      rw [zU_off k (by omega), zU_off k (by omega), zU_off k (by omega), zU_off k (by omega)]
    have m7 : zX S 7 m = -1 := b3 m ⟨by show zX S 8 0 ≤ m; omega, by omega⟩
    rw [eX]
    refine ⟨h1, h2, h3, h4, h5, ?_, ⟨?_, fun i hi => ?_, fun i hi => ?_, fun i j hi hj ni ij => ?_⟩, iK_c2 h8 ?_ (fun k hk => ?_)⟩
    · show iO X'
      unfold iO
      rw [eo3 0 (by omega), eo3 1 (by omega), eo3 2 (by omega), eo3 3 (by omega)]
      exact h6
    · show 0 ≤ X' 8 0 ∧ X' 8 0 ≤ 8
      rw [e8]
      omega
    · have hi : 0 ≤ i ∧ i < X' 8 0 := hi
      rw [e8] at hi
      show (0 ≤ X' 4 i ∧ X' 4 i ≤ 2000 ∧ 0 ≤ X' 5 i ∧ X' 5 i ≤ 5 ∧ 1 ≤ X' 6 i ∧ X' 6 i ≤ 600) ∧ -1 ≤ X' 7 i ∧ X' 7 i < S.1 13 3
      rw [e7]
      by_cases t : i = m
      · rw [t, en.1, en.2.1, en.2.2, m7]
        omega
      · obtain ⟨c1, c2, c3⟩ := eo i t
        rw [c1, c2, c3]
        exact b2 i ⟨hi.1, by show i < zX S 8 0; omega⟩
    · have hi : X' 8 0 ≤ i ∧ i < 8 := hi
      rw [e8] at hi
      show X' 7 i = -1
      rw [e7]
      exact b3 i ⟨by show zX S 8 0 ≤ i; omega, hi.2⟩
    · have hi : 0 ≤ i ∧ i < X' 8 0 := hi
      have hj : 0 ≤ j ∧ j < X' 8 0 := hj
      have ni : ¬ X' 7 i = -1 := ni
      have ij : X' 7 i = X' 7 j := ij
      rw [e8] at hi hj
      rw [e7] at ni ij
      have im : ¬ i = m := fun t => ni (by rw [t]; exact m7)
      have jm : ¬ j = m := fun t => ni (by rw [ij, t]; exact m7)
      exact b4 i j ⟨hi.1, by show i < zX S 8 0; omega⟩ ⟨hj.1, by show j < zX S 8 0; omega⟩ ni ij
    · show X' 8 1 = zX S 8 1
      rw [← eX]
      unfold x_train
      rw [zU_ne (by omega), zU_off 8 (by omega), zU_off 8 (by omega), zU_off 8 (by omega)]
    · show X' k = zX S k
      rw [← eX]
      unfold x_train
      rw [zU_off k (by omega), zU_off k (by omega), zU_off k (by omega), zU_off k (by omega)]
  · exact h'
end
