/-! what the tables say of the callees (laid by wip/whole/gen_checks.py) -/
set_option maxRecDepth 100000 in
theorem zce_285 : zCe 285 2 := ⟨(zmA 1 7 (by decide +kernel) (by decide +kernel)), (zmA 1 189 rfl (by decide +kernel)), ⟨by decide +kernel, by decide +kernel, by decide +kernel⟩, by decide +kernel⟩
theorem zve_285 : Cond.static (zMt 285).1 ∈ zTb := (zmA 1 188 (by decide +kernel) (by decide +kernel))
