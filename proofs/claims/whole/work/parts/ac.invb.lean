-- needs ab
/-! what is true of the state stays true: fires, the clock, the dead -/
section
variable {n x y z e t : Int} {S : zS} {r : List Int}
theorem zk_lo {Y Y' X : zM} {i : Nat} (e : ∀ k, 6 ≤ k → Y' k = Y k) : z_kept Y' X i = z_kept Y X i := by
  funext k j
  unfold z_kept
  by_cases q : k < 6
  · rw [if_pos q, if_pos q]
  · rw [if_neg q, if_neg q, e k (by omega)]
theorem iS.yd {Y' : zM} (h : iS n S) (hY : y_W Y') (hR : y_R Y') (ht : Y' 5 1 ≤ 600 * n) (h13 : Y' 13 3 = S.1 13 3) (hk : ∀ i : Nat, i < 3 → y_W (z_kept S.1 (zX S) i) → y_W (z_kept Y' (zX S) i)) : iS n (sY S Y') := by
  obtain ⟨h1, h2, h3, h4, h5, h6, h7, k1, k2⟩ := h
  refine ⟨h1, ⟨hY, hR, ht⟩, h3, h4, ?_, h6, ?_, k1, fun i hi => ⟨(k2 i hi).1, fun q => ⟨hk i hi ((k2 i hi).2 q).1, ((k2 i hi).2 q).2⟩⟩⟩
  · show iB Y' _ _
    unfold iB at *
    rw [h13]
    exact h5
  · show iN Y' _
    unfold iN at *
    rw [h13]
    exact h7
theorem i_light (h : iS n S) (hn : n + 1 ≤ 512) : iS (n + 1) (o_light S x).2 := by
  have h' := h.up hn
  have w := h.env
  unfold o_light
  split
  · rename_i q
    refine h'.yd ?_ h.R ?_ rfl (fun i _ hk => ?_)
    · obtain ⟨a1, a2, a3, a4⟩ := h.W
      refine ⟨a1, a2, a3, fun e he => ?_⟩
      have := a4 e he
      by_cases z1 : e = x
      · subst z1
        obtain ⟨c1, c2, c3, c4⟩ := this
        refine ⟨c1, ?_, c3, fun z2 => ?_⟩
        · show -1 ≤ S.1 2 e ∧ S.1 2 e < S.1 13 0 ∧ -1 ≤ zU S.1 3 e (S.1 5 1) 3 e ∧ zU S.1 3 e (S.1 5 1) 3 e ≤ S.1 5 1
          rw [zU_eq]
          omega
        · have z2 : S.1 13 3 ≤ e := z2
          omega
      · obtain ⟨c1, c2, c3, c4⟩ := this
        refine ⟨c1, ?_, c3, fun z2 => ?_⟩
        · show -1 ≤ S.1 2 e ∧ S.1 2 e < S.1 13 0 ∧ -1 ≤ zU S.1 3 x (S.1 5 1) 3 e ∧ zU S.1 3 x (S.1 5 1) 3 e ≤ S.1 5 1
          rw [zU_ne (by omega)]
          exact c2
        · show S.1 2 e = -1 ∧ zU S.1 3 x (S.1 5 1) 3 e = -1 ∧ S.1 4 e = 0
          rw [zU_ne (by omega)]
          exact c4 z2
    · show S.1 5 1 ≤ 600 * (n + 1)
      exact h'.2.1.2.2
    · rw [zk_lo (fun k hk2 => zU_off k (by omega))]
      exact hk
  · exact h'
theorem i_drop (h : iS n S) (hn : n + 1 ≤ 512) : iS (n + 1) (o_drop S x).2 := by
  have h' := h.up hn
  have w := h.env
  unfold o_drop
  split
  · rename_i q
    refine h'.yd ?_ h.R ?_ rfl (fun i _ hk => ?_)
    · obtain ⟨a1, a2, a3, a4⟩ := h.W
      refine ⟨a1, a2, a3, fun e he => ?_⟩
      obtain ⟨c1, c2, c3, c4⟩ := a4 e he
      by_cases z1 : e = x
      · subst z1
        refine ⟨c1, ?_, c3, fun z2 => ?_⟩
        · show -1 ≤ S.1 2 e ∧ S.1 2 e < S.1 13 0 ∧ -1 ≤ zU S.1 3 e (-1) 3 e ∧ zU S.1 3 e (-1) 3 e ≤ S.1 5 1
          rw [zU_eq]
          omega
        · have z2 : S.1 13 3 ≤ e := z2
          omega
      · refine ⟨c1, ?_, c3, fun z2 => ?_⟩
        · show -1 ≤ S.1 2 e ∧ S.1 2 e < S.1 13 0 ∧ -1 ≤ zU S.1 3 x (-1) 3 e ∧ zU S.1 3 x (-1) 3 e ≤ S.1 5 1
          rw [zU_ne (by omega)]
          exact c2
        · show S.1 2 e = -1 ∧ zU S.1 3 x (-1) 3 e = -1 ∧ S.1 4 e = 0
          rw [zU_ne (by omega)]
          exact c4 z2
    · show S.1 5 1 ≤ 600 * (n + 1)
      exact h'.2.1.2.2
    · rw [zk_lo (fun k hk2 => zU_off k (by omega))]
      exact hk
  · exact h'
theorem i_dead {b : Int} (hb : b = 0 ∨ b = 1) (h : iS n S) (hn : n + 1 ≤ 512) : iS (n + 1) (o_dead S x b).2 := by
  have h' := h.up hn
  have w := h.env
  unfold o_dead
  split
  · rename_i q
    refine h'.yd ?_ h.R ?_ rfl (fun i _ hk => ?_)
    · obtain ⟨a1, a2, a3, a4⟩ := h.W
      refine ⟨a1, a2, a3, fun e he => ?_⟩
      obtain ⟨c1, c2, c3, c4⟩ := a4 e he
      by_cases z1 : e = x
      · subst z1
        refine ⟨?_, c2, c3, fun z2 => ?_⟩
        · show 0 ≤ S.1 9 e ∧ S.1 9 e ≤ 30 ∧ 0 ≤ S.1 10 e ∧ S.1 10 e ≤ 5 ∧ 0 ≤ S.1 11 e ∧ S.1 11 e ≤ 600 ∧ (S.1 12 e = 0 ∨ S.1 12 e = 1) ∧ (zU S.1 4 e b 4 e = 0 ∨ zU S.1 4 e b 4 e = 1)
          rw [zU_eq]
          omega
        · have z2 : S.1 13 3 ≤ e := z2
          omega
      · refine ⟨?_, c2, c3, fun z2 => ?_⟩
        · show 0 ≤ S.1 9 e ∧ S.1 9 e ≤ 30 ∧ 0 ≤ S.1 10 e ∧ S.1 10 e ≤ 5 ∧ 0 ≤ S.1 11 e ∧ S.1 11 e ≤ 600 ∧ (S.1 12 e = 0 ∨ S.1 12 e = 1) ∧ (zU S.1 4 x b 4 e = 0 ∨ zU S.1 4 x b 4 e = 1)
          rw [zU_ne (by omega)]
          exact c1
        · show S.1 2 e = -1 ∧ S.1 3 e = -1 ∧ zU S.1 4 x b 4 e = 0
          rw [zU_ne (by omega)]
          exact c4 z2
    · show S.1 5 1 ≤ 600 * (n + 1)
      exact h'.2.1.2.2
    · rw [zk_lo (fun k hk2 => zU_off k (by omega))]
      exact hk
  · exact h'
theorem i_pass (h : iS n S) (hn : n + 1 ≤ 512) : iS (n + 1) (o_pass S x).2 := by
  have h' := h.up hn
  have now := h.now
  have tn := h.2.1.2.2
  unfold o_pass
  split
  · rename_i q
    refine h'.yd ?_ h.R ?_ rfl (fun i _ hk => ?_)
    · obtain ⟨a1, a2, a3, a4⟩ := h.W
      refine ⟨a1, ?_, a3, fun e he => ?_⟩
      · show 0 ≤ S.1 5 0 ∧ S.1 5 0 ≤ S.1 13 0 ∧ 0 ≤ zU S.1 5 1 (S.1 5 1 + x) 5 1 ∧ zU S.1 5 1 (S.1 5 1 + x) 5 1 ≤ 400000
        rw [zU_eq]
        omega
      · obtain ⟨c1, c2, c3, c4⟩ := a4 e he
        refine ⟨c1, ?_, c3, c4⟩
        show -1 ≤ S.1 2 e ∧ S.1 2 e < S.1 13 0 ∧ -1 ≤ S.1 3 e ∧ S.1 3 e ≤ zU S.1 5 1 (S.1 5 1 + x) 5 1
        rw [zU_eq]
        omega
    · show zU S.1 5 1 (S.1 5 1 + x) 5 1 ≤ 600 * (n + 1)
      rw [zU_eq]
      omega
    · rw [zk_lo (fun k hk2 => zU_off k (by omega))]
      exact hk
  · exact h'
end
