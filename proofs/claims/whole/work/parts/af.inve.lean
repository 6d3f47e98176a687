-- needs ae
/-! what is true of the state stays true: drag, again, fails -/
section
variable {n x v e b p t : Int} {S : zS} {Y : zM}
theorem i_drag (h : iS n S) (hn : n + 1 ≤ 512) : iS (n + 1) (o_drag S e b p).2 := by
  unfold o_drag
  split
  · rename_i q
    have := f_min_b h.W (i_pt h q.1) q.2.2.2.1
    exact i_bring h hn q.1 q.2.2.2.1 q.2.2.2.2.2.2 (by omega)
  · exact h.up hn
theorem i_again (h : iS n S) (hn : n + 1 ≤ 512) : iS (n + 1) (o_again S x).2 := by
  have h' := h.up hn
  unfold o_again
  split
  · rename_i q
    have hk := h.2.2.2.2.2.2.2.2 x.toNat (by omega)
    have kk := hk.2 (by rw [show ((x.toNat : Nat) : Int) = x from by omega]; exact q.2)
    refine h'.yd kk.1 ?_ ?_ rfl (fun i _ z => ?_)
    · exact h.R
    · show zX S (10 + 6 * x.toNat + 5) 1 ≤ 600 * (n + 1)
      have := kk.2
      have : zX S (10 + 6 * x.toNat + 5) 1 ≤ 600 * n := this
      omega
    · rw [zk_lo (fun k hk2 => by
        funext j
        unfold z_kept
        rw [if_neg (by omega)])]
      exact z
  · exact h'
theorem i_fails (h : iS n S) (hn : n + 1 ≤ 512) : iS (n + 1) (o_fails S x).2 := by
  have n8 : zX S 8 0 ≤ 8 := h.2.2.2.2.2.2.1.1.2
  unfold o_fails
  split
  · refine h.ur hn ?_
    rw [List.length_cons, mf_R_len]
    omega
  · exact h.up hn
end
