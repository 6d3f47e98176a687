-- needs ai
/-! what is true of the state stays true: another version -/
section
variable {n x y z : Int} {S : zS}
theorem iS.vd {Y' : zM} (h : iS n S) (hn : n + 1 ≤ 512) (hY : y_W Y') (hR : y_R Y') (ht : Y' 5 1 ≤ 600 * (n + 1)) (h13 : S.1 13 3 ≤ Y' 13 3) : iS (n + 1) (sV (sY S Y')) := by
  obtain ⟨h1, h2, h3, h4, ⟨c1, c2, c3, c4, c5⟩, h6, ⟨b1, b2, b3, b4⟩, k1, k2⟩ := h
  have k1 : 0 ≤ zX S 8 1 ∧ zX S 8 1 ≤ n := k1
  refine ⟨by omega, ⟨hY, hR, ht⟩, h3, h4, ⟨c1, c2, fun e he => ?_, c4, c5⟩, h6, ⟨b1, fun i hi => ?_, b3, b4⟩, ?_, fun i hi => ?_⟩
  · have := c3 e he
    show 0 ≤ e ∧ e < Y' 13 3
    omega
  · have := b2 i hi
    refine ⟨this.1, this.2.1, ?_⟩
    have t : zX S 7 i < S.1 13 3 := this.2.2
    show zX S 7 i < Y' 13 3
    omega
  · show 0 ≤ zX S 8 1 + 1 ∧ zX S 8 1 + 1 ≤ n + 1
    omega
  · have := (k2 i hi).1
    have t : -1 ≤ zX S 9 (i : Int) ∧ zX S 9 (i : Int) ≤ zX S 8 1 := this
    refine ⟨?_, fun q => ?_⟩
    · show -1 ≤ zX S 9 (i : Int) ∧ zX S 9 (i : Int) ≤ zX S 8 1 + 1
      omega
    · have q : zX S 9 (i : Int) = zX S 8 1 + 1 := q
      omega
end
