/-! what the tables say of the pools (laid by wip/whole/gen_checks.py) -/
theorem zpo_13 : ∀ q ∈ zPl13, zPok 13 q.1 q.2 := fun _ h => absurd h List.not_mem_nil
theorem zp14_264 : zPok 14 264 (4, 0, 65536) := ⟨by unfold zI32; decide +kernel, (zmA 5 19 (by decide +kernel) (by decide +kernel))⟩
theorem zp14_265 : zPok 14 265 (4, 0, 1431655765) := ⟨by unfold zI32; decide +kernel, (zmA 4 193 (by decide +kernel) (by decide +kernel))⟩
theorem zp14_266 : zPok 14 266 (4, 0, 858993459) := ⟨by unfold zI32; decide +kernel, (zmA 4 194 (by decide +kernel) (by decide +kernel))⟩
theorem zp14_267 : zPok 14 267 (4, 0, 252645135) := ⟨by unfold zI32; decide +kernel, (zmA 4 195 (by decide +kernel) (by decide +kernel))⟩
theorem zpo_14 : ∀ q ∈ zPl14, zPok 14 q.1 q.2 := List.forall_mem_cons.mpr ⟨zp14_264, List.forall_mem_cons.mpr ⟨zp14_265, List.forall_mem_cons.mpr ⟨zp14_266, List.forall_mem_cons.mpr ⟨zp14_267, fun _ h => absurd h List.not_mem_nil⟩⟩⟩⟩
theorem zpo_15 : ∀ q ∈ zPl15, zPok 15 q.1 q.2 := fun _ h => absurd h List.not_mem_nil
