-- needs am
/-! what is true of the state stays true: coaled, fill, rule -/
section
variable {n x f : Int} {S : zS} {Y : zM}
theorem i_share (h : iS n S) (hn : n + 1 ≤ 512) : iS (n + 1) (o_share S x f).2 := by
  have w := h.env
  unfold o_share
  by_cases hx : cn_ok (S.1 13 3) x
  · rw [if_pos hx]
    obtain ⟨x0, x1, x2⟩ := hx
    have p := p2_12 (n := (S.1 13 3).toNat) (by omega)
    obtain ⟨D, rfl⟩ : ∃ D : Nat, x = (D : Int) := ⟨x.toNat, by omega⟩
    rw [show ((D : Int)).toNat = D from by omega] at x2 ⊢
    obtain ⟨m, hm⟩ : ∃ m : Nat, S.1 13 3 = (m : Int) := ⟨(S.1 13 3).toNat, by omega⟩
    rw [hm, show ((m : Int)).toNat = m from by omega]
    have hX : iO (zX S) := h.2.2.2.2.2.1
    have hlb := bl_len D m 0
    have h12 : fr_c D m ≤ fr_c D 12 := by
      have := bl_len D (12 - m) m
      rw [show m + (12 - m) = 12 from by omega] at this
      omega
    have hl7 : (bl D m 0).length ≤ 7 := by
      rw [Nat.zero_add] at hlb
      omega
    have hlt := bl_lt D m 0
    cases hcg : cg (zX S) (bl D m 0) (fun _ => 0) [] none with
    | none => exact h.up hn
    | some q =>
      rcases cg_is (zX S) (bl D m 0) (fun _ => 0) [] none q hcg with hh | ⟨r, hr1, hr2, hr3, _, ok⟩
      · cases hh
      · rw [List.nil_append] at hr1
        rw [← hr1] at hr2 hr3 ok
        have CTb := ct_b (zX S) hX (bl D m 0) q.2 (fun _ => 0) 0 (fun e he => by have := hlt e he; omega) (fun x => by simp)
        show iS (n + 1) (co_st S (bl D m 0) q.2 f)
        unfold co_st
        generalize ct (zX S) (bl D m 0) q.2 (fun _ => 0) = T at *
        have hr : (co_row (zX S) T q.2).length ≤ 12 := by
          unfold co_row
          rw [List.length_append, List.length_append, List.length_append, hr2]
          simp only [List.length_cons, List.length_nil]
          omega
        obtain ⟨h1, h2, h3, h4, h5, ⟨a1, a2⟩, h7, h8⟩ := h.ur hn hr
        have lo : ∀ k, ¬ k = 0 → co_X (zX S) T f k = zX S k := fun k hk => by
          funext i
          unfold co_X
          rw [if_neg (by omega)]
        refine ⟨h1, h2, h3, h4, h5, ⟨fun i hi => ?_, ?_⟩, ?_, ?_⟩
        · show 0 ≤ co_X (zX S) T f 0 i ∧ co_X (zX S) T f 0 i ≤ 999 ∧ 0 ≤ co_X (zX S) T f 1 i ∧ co_X (zX S) T f 1 i ≤ 999
          rw [lo 1 (by omega)]
          have ai : 0 ≤ zX S 0 i ∧ zX S 0 i ≤ 999 ∧ 0 ≤ zX S 1 i ∧ zX S 1 i ≤ 999 := a1 i hi
          have bi := (CTb i).1
          have oi : 0 < T i → zX S 1 i ≤ zX S 0 i - T i := by
            have : i = 0 ∨ i = 1 ∨ i = 2 := by omega
            rcases this with rfl | rfl | rfl
            · exact ok.1
            · exact ok.2.1
            · exact ok.2.2
          unfold co_X
          split
          · rcases Int.lt_or_le 0 (T i) with z | z
            · have := oi z
              omega
            · omega
          · exact ai
        · show ∀ e : Int, 0 ≤ e ∧ e < 12 → 0 ≤ co_X (zX S) T f 2 e ∧ co_X (zX S) T f 2 e ≤ 40 ∧ 0 ≤ co_X (zX S) T f 3 e ∧ co_X (zX S) T f 3 e ≤ 2
          rw [lo 2 (by omega), lo 3 (by omega)]
          exact a2
        · show iN S.1 (co_X (zX S) T f)
          unfold iN
          rw [lo 4 (by omega), lo 5 (by omega), lo 6 (by omega), lo 7 (by omega), lo 8 (by omega)]
          exact h7
        · exact iK_c (X := zX S) h8 (fun k hk => lo k (by omega))
  · rw [if_neg hx]
    exact h.up hn
theorem ru_lo {c : List Int} {k : Nat} (h : ¬ k = 14 ∧ ¬ k = 15) : ru_Y Y c k = Y k := by
  funext i
  unfold ru_Y
  rw [if_neg h.1, if_neg h.2]
theorem w_ru {c : List Int} (h : y_W Y) : y_W (ru_Y Y c) := by
  unfold y_W
  rw [ru_lo (k := 0) (by omega), ru_lo (k := 1) (by omega), ru_lo (k := 2) (by omega), ru_lo (k := 3) (by omega), ru_lo (k := 4) (by omega), ru_lo (k := 5) (by omega), ru_lo (k := 6) (by omega), ru_lo (k := 7) (by omega), ru_lo (k := 8) (by omega), ru_lo (k := 9) (by omega), ru_lo (k := 10) (by omega), ru_lo (k := 11) (by omega), ru_lo (k := 12) (by omega), ru_lo (k := 13) (by omega)]
  exact h
theorem i_ruY {c : List Int} (h : iS n S) (hR : y_R (ru_Y S.1 c)) : iS n (sT (sY S (ru_Y S.1 c)) []) := by
  have := h.yd (w_ru (c := c) h.W) hR (by rw [ru_lo (k := 5) (by omega)]; exact h.2.1.2.2) (by rw [ru_lo (k := 13) (by omega)]) (fun i _ hk => by
    have : z_kept (ru_Y S.1 c) (zX S) i = ru_Y (z_kept S.1 (zX S) i) c := by
      funext k j
      unfold z_kept ru_Y
      by_cases q : k < 6
      · rw [if_pos q, if_neg (by omega), if_neg (by omega)]
        exact (if_pos q).symm
      · rw [if_neg q]
        by_cases q2 : k = 14
        · rw [if_pos q2, if_pos q2]
        · rw [if_neg q2, if_neg q2]
          by_cases q3 : k = 15
          · rw [if_pos q3, if_pos q3]
          · rw [if_neg q3, if_neg q3]
            exact (if_neg q).symm
    rw [this]
    exact w_ru hk)
  obtain ⟨h1, h2, _, h4⟩ := this
  exact ⟨h1, h2, ⟨Nat.zero_le _, fun v hv => absurd hv List.not_mem_nil⟩, h4⟩
theorem i_rule (h : iS n S) (hn : n + 1 ≤ 512) : iS (n + 1) (o_rule S).2 := by
  have h' := h.up hn
  unfold o_rule
  by_cases q : S.2.1 = []
  · rw [if_pos q]
    refine i_ruY h' (Or.inl ?_)
    unfold ru_Y
    rfl
  · rw [if_neg q]
    by_cases q2 : (p_r (ru_H S.2.1) 29 0).2.2 = true ∧ (S.2.1.length : Int) ≤ (p_r (ru_H S.2.1) 29 0).1
    · rw [if_pos q2]
      refine i_ruY h' (Or.inr ⟨(p_r (ru_H S.2.1) 29 0).2.1.length, ?_, ?_⟩)
      · unfold ru_Y
        rfl
      · have f := p_r_fit (H := ru_H S.2.1) (m := min (S.2.1.length : Int) 40) (ru_H_end S.2.1) 29 0 (by omega)
        have g := p_r_fn (H := ru_H S.2.1) 29 0 q2.1
        generalize p_r (ru_H S.2.1) 29 0 = R at *
        refine p_good_ok _ R.2.1 R.2.1.length ⟨rfl, fun i hi => ?_⟩ (by have := g 0 (by omega); exact this) (by omega)
        unfold ru_Y y_cl
        rw [if_pos rfl, if_pos (by omega)]
        show R.2.1.getD ((i : Int)).toNat 0 = R.2.1.getD i 0
        rw [show ((i : Int)).toNat = i from by omega]
    · rw [if_neg q2]
      obtain ⟨h1, h2, _, h4⟩ := h'
      exact ⟨h1, h2, ⟨Nat.zero_le _, fun v hv => absurd hv List.not_mem_nil⟩, h4⟩
end
