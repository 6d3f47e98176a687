-- needs 66
/-! bits counted; the fewest fires against the frost, as numbers -/
def zbc (x0 : Int) : Int := (zand (zw ((zw ((zand (zw ((zw ((zand (zw (x0 - (zand (zushr x0 1) 1431655765))) 858993459) + (zand (zushr (zw (x0 - (zand (zushr x0 1) 1431655765))) 2) 858993459))) + (zushr (zw ((zand (zw (x0 - (zand (zushr x0 1) 1431655765))) 858993459) + (zand (zushr (zw (x0 - (zand (zushr x0 1) 1431655765))) 2) 858993459))) 4))) 252645135) + (zushr (zand (zw ((zw ((zand (zw (x0 - (zand (zushr x0 1) 1431655765))) 858993459) + (zand (zushr (zw (x0 - (zand (zushr x0 1) 1431655765))) 2) 858993459))) + (zushr (zw ((zand (zw (x0 - (zand (zushr x0 1) 1431655765))) 858993459) + (zand (zushr (zw (x0 - (zand (zushr x0 1) 1431655765))) 2) 858993459))) 4))) 252645135) 8))) + (zushr (zw ((zand (zw ((zw ((zand (zw (x0 - (zand (zushr x0 1) 1431655765))) 858993459) + (zand (zushr (zw (x0 - (zand (zushr x0 1) 1431655765))) 2) 858993459))) + (zushr (zw ((zand (zw (x0 - (zand (zushr x0 1) 1431655765))) 858993459) + (zand (zushr (zw (x0 - (zand (zushr x0 1) 1431655765))) 2) 858993459))) 4))) 252645135) + (zushr (zand (zw ((zw ((zand (zw (x0 - (zand (zushr x0 1) 1431655765))) 858993459) + (zand (zushr (zw (x0 - (zand (zushr x0 1) 1431655765))) 2) 858993459))) + (zushr (zw ((zand (zw (x0 - (zand (zushr x0 1) 1431655765))) 858993459) + (zand (zushr (zw (x0 - (zand (zushr x0 1) 1431655765))) 2) 858993459))) 4))) 252645135) 8))) 16))) 63)
theorem zbc_ab : ∀ a : Nat, a < 64 → ∀ b : Nat, b < 64 → zbc ((64 * a + b : Nat) : Int) = (fr_c (64 * a + b) 12 : Int) := by decide +kernel
theorem zbc_all (m : Nat) (h : m < 4096) : zbc (m : Int) = (fr_c m 12 : Int) := by
  have := zbc_ab (m / 64) (by omega) (m % 64) (by omega)
  rw [show 64 * (m / 64) + m % 64 = m from by omega] at this
  exact this
section
variable {g : zG} {d : Nat} {K : Option zV → zM → Prop} {μ : zM} {x : Int} {m : Nat}
theorem j_bc (h : K (some (.inl (zbc x))) μ) : zCall g d 283 [.inl x] μ K := sJ6_bitCount_0f7a4 h
theorem j_bcn (hm : m < 4096) (h : K (some (.inl (fr_c m 12 : Int))) μ) : zCall g d 283 [.inl (m : Int)] μ K := j_bc (by rw [zbc_all m hm]; exact h)
end
