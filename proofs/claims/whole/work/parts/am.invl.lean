-- needs al
/-! what is true of the state stays true: fires, crews, clear, order, under, morning, why -/
section
variable {n x y z b v k w rest duty t : Int} {S : zS} {Y : zM}
theorem iS.n8 (h : iS n S) : zX S 8 0 ≤ 8 := h.2.2.2.2.2.2.1.1.2
theorem i_fires (h : iS n S) (hn : n + 1 ≤ 512) : iS (n + 1) (o_fires S w k).2 := by
  have n8 := h.n8
  unfold o_fires
  split
  · split
    · exact h.up hn
    · refine h.ur hn ?_
      unfold fr_row
      rw [List.length_map, List.length_range]
      omega
  · exact h.up hn
theorem i_crews (h : iS n S) (hn : n + 1 ≤ 512) : iS (n + 1) (o_crews S rest duty).2 := by
  have n8 := h.n8
  unfold o_crews
  split
  · cases cr_m (zX S) rest duty (zX S 8 0).toNat ((zX S 8 0).toNat + 1) 0 with
    | none => exact h.up hn
    | some q =>
      refine h.ur hn ?_
      unfold fr_row
      rw [List.length_map, List.length_range]
      omega
  · exact h.up hn
theorem i_clear (h : iS n S) (hn : n + 1 ≤ 512) : iS (n + 1) (o_clear S x).2 := by
  unfold o_clear
  split
  · have hl := cl_len x 3 S.1 0 [] none (fun q hq => by cases hq) (by simp)
    generalize cl x 3 S.1 0 [] none = a at *
    cases a with
    | none => exact h.up hn
    | some q => exact h.ur hn (hl q rfl)
  · exact h.up hn
theorem i_order (hx : zI32 x) (h : iS n S) (hn : n + 1 ≤ 512) : iS (n + 1) (o_order S x).2 := by
  unfold o_order
  by_cases q : 0 < x ∧ zand x (zxor (f_ins S.1 : Int) (-1)) = 0 ∧ fr_c x.toNat 12 ≤ 5
  · rw [if_pos q]
    obtain ⟨m, m4, em, hsub⟩ := z_sub hx f_ins_lt q.2.1
    have hin := or_ins h.W m4 hsub
    have tm : x.toNat = m := by omega
    have q3 := q.2.2
    rw [tm] at q3 ⊢
    have hl := or_len 6 S.1 m 0 [] none (fr_c m 12) hin (fun q hq => by cases hq) (by simp)
    generalize or_go 6 S.1 m 0 [] none = a at *
    cases a with
    | none => exact h.up hn
    | some q => exact h.ur hn (by have := hl q rfl; omega)
  · rw [if_neg q]
    exact h.up hn
theorem i_under (h : iS n S) (hn : n + 1 ≤ 512) : iS (n + 1) (o_under S).2 := by
  have h0 := un_len 0 S.1 0 [] none (fun q hq => by cases hq) (by simp)
  have h1 := un_len 1 S.1 0 [] none (fun q hq => by cases hq) (by simp)
  have h2 := un_len 2 S.1 0 [] none (fun q hq => by cases hq) (by simp)
  unfold o_under
  generalize un 0 S.1 0 [] none = a at *
  generalize un 1 S.1 0 [] none = b at *
  generalize un 2 S.1 0 [] none = c at *
  cases a with
  | some q => exact h.ur hn (h0 q rfl)
  | none =>
    cases b with
    | some q => exact h.ur hn (h1 q rfl)
    | none =>
      cases c with
      | some q => exact h.ur hn (h2 q rfl)
      | none => exact h.up hn
theorem i_morning (h : iS n S) (hn : n + 1 ≤ 512) : iS (n + 1) (o_morning S).2 := by
  have n8 := h.n8
  unfold o_morning
  refine h.ur hn ?_
  unfold mo_row
  rw [List.length_map, List.length_range]
  omega
theorem i_why (h : iS n S) (hn : n + 1 ≤ 512) : iS (n + 1) (o_why S t).2 := by
  unfold o_why
  by_cases q : 0 ≤ t ∧ t < zX S 8 0
  · rw [if_pos q]
    by_cases q2 : zX S 7 t = -1
    · rw [if_pos q2]
      exact h.up hn
    · rw [if_neg q2]
      by_cases q3 : (mo_all S.1 (zX S)).2.2.2 0 t = -1
      · rw [if_pos q3]
        exact h.up hn
      · rw [if_neg q3]
        by_cases q4 : (mo_all S.1 (zX S)).2.2.2 0 t = 0
        · rw [if_pos q4]
          exact h.up hn
        · rw [if_neg q4]
          exact h.ur hn (by simp)
  · rw [if_neg q]
    exact h.up hn
end
