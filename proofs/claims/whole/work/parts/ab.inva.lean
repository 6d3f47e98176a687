-- needs aa
/-! what is true of the state stays true: the calls that change a row, or little -/
section
variable {n x y z e t : Int} {S : zS} {r : List Int}
theorem iS.up (h : iS n S) (hn : n + 1 ≤ 512) : iS (n + 1) S := by
  obtain ⟨h1, ⟨y1, y2, y3⟩, h3, h4, h5, h6, h7, k1, k2⟩ := h
  refine ⟨by omega, ⟨y1, y2, by omega⟩, h3, h4, h5, h6, h7, by omega, fun i hi => ⟨(k2 i hi).1, fun q => ?_⟩⟩
  have := (k2 i hi).2 q
  exact ⟨this.1, by have := this.2; omega⟩
theorem iK_c {Y X X' : zM} (h : iK n Y X) (e : ∀ k, 8 ≤ k → X' k = X k) : iK n Y X' := by
  have zk : ∀ i, z_kept Y X' i = z_kept Y X i := fun i => by
    funext k j
    unfold z_kept
    rw [e (10 + 6 * i + k) (by omega)]
  unfold iK at *
  rw [e 8 (by omega), e 9 (by omega)]
  refine ⟨h.1, fun i hi => ?_⟩
  rw [zk i, e (10 + 6 * i + 5) (by omega)]
  exact h.2 i hi
theorem iS.ur (h : iS n S) (hn : n + 1 ≤ 512) (hr : r.length ≤ 12) : iS (n + 1) (sR S r) := (h.up hn).r hr
theorem rm_row_len {R : zRm} : ∀ (k : Nat) (T : Nat → Bool), (rm_row R k T).length ≤ k
  | 0, _ => Nat.le_refl _
  | k + 1, T => by
    rw [rm_row]
    by_cases q : rm_p R (11 - k) = false
    · rw [if_pos q]
      have := rm_row_len (R := R) k T
      omega
    · rw [if_neg q]
      by_cases q2 : rm_nu R (k + 1) T ≤ rm_nu R k T
      · rw [if_pos q2, List.length_cons]
        have := rm_row_len (R := R) k T
        omega
      · rw [if_neg q2, List.length_cons]
        have := rm_row_len (R := R) k (rm_u T (rm_f R k T).toNat)
        omega
theorem pt_R_len {Q : zPt} : ∀ (k : Nat) (z : zSt2), (pt_R Q k z).length = k
  | 0, _ => rfl
  | k + 1, z => by
    rw [pt_R, List.length_cons, pt_R_len k]
theorem mf_R_len {P : zMf} : ∀ (k s : Nat), (mf_R P k s).length = k
  | 0, _ => rfl
  | k + 1, s => by
    rw [mf_R, List.length_cons, mf_R_len k]
theorem i_steps (h : iS n S) (hn : n + 1 ≤ 512) : iS (n + 1) (o_steps S x y).2 := h.up hn
theorem i_takes (h : iS n S) (hn : n + 1 ≤ 512) : iS (n + 1) (o_takes S x e).2 := h.up hn
theorem i_smoke (h : iS n S) (hn : n + 1 ≤ 512) : iS (n + 1) (o_smoke S).2 := h.up hn
theorem i_fits (h : iS n S) (hn : n + 1 ≤ 512) : iS (n + 1) (o_fits S e t).2 := h.up hn
theorem i_wrong (h : iS n S) (hn : n + 1 ≤ 512) : iS (n + 1) (o_wrong S).2 := h.up hn
theorem i_count (h : iS n S) (hn : n + 1 ≤ 512) : iS (n + 1) (o_count S x).2 := h.up hn
theorem i_men (h : iS n S) (hn : n + 1 ≤ 512) : iS (n + 1) (o_men S x).2 := h.up hn
theorem i_free (h : iS n S) (hn : n + 1 ≤ 512) : iS (n + 1) (o_free S e).2 := by
  unfold o_free
  split
  · split
    · exact h.ur hn (by simp)
    · exact h.up hn
  · exact h.up hn
theorem i_soonest (h : iS n S) (hn : n + 1 ≤ 512) : iS (n + 1) (o_soonest S t).2 := by
  unfold o_soonest
  split
  · split
    · exact h.up hn
    · exact h.ur hn (by simp)
  · exact h.up hn
theorem i_frost (h : iS n S) (hn : n + 1 ≤ 512) : iS (n + 1) (o_frost S x).2 := by
  unfold o_frost
  split
  · exact h.ur hn (by simp)
  · exact h.up hn
theorem i_burns (h : iS n S) (hn : n + 1 ≤ 512) : iS (n + 1) (o_burns S x).2 := by
  unfold o_burns
  split
  · exact h.ur hn (by simp)
  · exact h.up hn
theorem i_room (h : iS n S) (hn : n + 1 ≤ 512) : iS (n + 1) (o_room S x).2 := by
  unfold o_room
  split
  · exact h.ur hn (rm_row_len _ _)
  · exact h.up hn
theorem i_put (h : iS n S) (hn : n + 1 ≤ 512) : iS (n + 1) (o_put S).2 := by
  have c6 := h.2.2.2.2.1.1
  unfold o_put
  split
  · exact h.up hn
  · split
    · exact h.ur hn (by rw [pt_R_len]; omega)
    · exact h.up hn
theorem i_exchange (h : iS n S) (hn : n + 1 ≤ 512) : iS (n + 1) (o_exchange S).2 := by
  unfold o_exchange
  refine h.ur hn ?_
  split <;> simp
theorem i_most (h : iS n S) (hn : n + 1 ≤ 512) : iS (n + 1) (o_most S).2 := by
  have n8 : zX S 8 0 ≤ 8 := h.2.2.2.2.2.2.1.1.2
  unfold o_most
  exact h.ur hn (by rw [mf_R_len]; omega)
theorem i_coal (h : iS n S) (hn : n + 1 ≤ 512) : iS (n + 1) (o_coal S x y z).2 := by
  unfold o_coal
  split
  · rename_i q
    obtain ⟨h1, h2, h3, h4, h5, ⟨a1, a2⟩, h7, h8⟩ := h.up hn
    refine ⟨h1, h2, h3, h4, h5, ⟨fun i hi => ?_, a2⟩, h7, iK_c h8 (fun k hk => by
      show zU (zU (zX S) 0 x y) 1 x z k = zX S k
      rw [zU_off k (by omega), zU_off k (by omega)])⟩
    have := a1 i hi
    show 0 ≤ zU (zU (zX S) 0 x y) 1 x z 0 i ∧ zU (zU (zX S) 0 x y) 1 x z 0 i ≤ 999 ∧ 0 ≤ zU (zU (zX S) 0 x y) 1 x z 1 i ∧ zU (zU (zX S) 0 x y) 1 x z 1 i ≤ 999
    rw [zU_off 0 (by omega)]
    by_cases z1 : i = x
    · rw [z1, zU_eq, zU_eq]
      omega
    · rw [zU_ne (by omega), zU_ne (by omega), zU_off 1 (by omega)]
      exact this
  · exact h.up hn
theorem i_wants (h : iS n S) (hn : n + 1 ≤ 512) : iS (n + 1) (o_wants S x y z).2 := by
  unfold o_wants
  split
  · rename_i q
    obtain ⟨h1, h2, h3, h4, h5, ⟨a1, a2⟩, h7, h8⟩ := h.up hn
    refine ⟨h1, h2, h3, h4, h5, ⟨a1, fun i hi => ?_⟩, h7, iK_c h8 (fun k hk => by
      show zU (zU (zX S) 2 x y) 3 x z k = zX S k
      rw [zU_off k (by omega), zU_off k (by omega)])⟩
    have := a2 i hi
    show 0 ≤ zU (zU (zX S) 2 x y) 3 x z 2 i ∧ zU (zU (zX S) 2 x y) 3 x z 2 i ≤ 40 ∧ 0 ≤ zU (zU (zX S) 2 x y) 3 x z 3 i ∧ zU (zU (zX S) 2 x y) 3 x z 3 i ≤ 2
    rw [zU_off 2 (by omega)]
    by_cases z1 : i = x
    · rw [z1, zU_eq, zU_eq]
      omega
    · rw [zU_ne (by omega), zU_ne (by omega), zU_off 3 (by omega)]
      exact this
  · exact h.up hn
theorem i_nobody (h : iS n S) (hn : n + 1 ≤ 512) : iS (n + 1) (o_nobody S).2 := by
  obtain ⟨h1, h2, h3, h4, h5, h6⟩ := h.up hn
  exact ⟨h1, h2, h3, h4, ⟨Nat.zero_le _, List.nodup_nil, fun e he => absurd he (List.not_mem_nil), List.nodup_nil, fun e he => absurd he (List.not_mem_nil)⟩, h6⟩
end
