/-! numbers and lists under the frame -/
theorem zof_w (x : Int) : Int32.ofInt (zw x) = Int32.ofInt x := by
  rw [Int32.ofInt_eq_iff_bmod_eq_toInt, Int32.toInt_ofInt]
  simp only [zw, Int.bmod, Int32.size]
  omega
theorem zI32_w (x : Int) : zI32 (zw x) := by
  unfold zI32 zw
  omega
theorem zto_of {x : Int} (h : zI32 x) : (Int32.ofInt x).toInt = x := Int32.toInt_ofInt_of_le (by have := h.1; omega) (by have := h.2; omega)
theorem zI32_to (x : Int32) : zI32 x.toInt := ⟨by have := x.le_toInt; omega, by have := x.toInt_lt; omega⟩
theorem zw_id {x : Int} (h : zI32 x) : zw x = x := by
  unfold zI32 at h
  unfold zw
  omega
theorem zof_x (x : Int) : Int64.ofInt (zx x) = Int64.ofInt x := by
  rw [Int64.ofInt_eq_iff_bmod_eq_toInt, Int64.toInt_ofInt]
  simp only [zx, Int.bmod, Int64.size]
  omega
theorem zI64_x (x : Int) : zI64 (zx x) := by
  unfold zI64 zx
  omega
theorem zto_ofL {x : Int} (h : zI64 x) : (Int64.ofInt x).toInt = x := Int64.toInt_ofInt_of_le (by have := h.1; omega) (by have := h.2; omega)
theorem zx_id {x : Int} (h : zI64 x) : zx x = x := by
  unfold zI64 at h
  unfold zx
  omega
theorem zI64_32 {x : Int} (h : zI32 x) : zI64 x := by
  unfold zI32 at h
  unfold zI64
  omega
theorem zof_inj {x y : Int} (hx : zI32 x) (hy : zI32 y) : Int32.ofInt x = Int32.ofInt y ↔ x = y := ⟨fun h => by rw [← zto_of hx, ← zto_of hy, h], fun h => by rw [h]⟩
theorem zof_lt {x y : Int} (hx : zI32 x) (hy : zI32 y) : Int32.ofInt x < Int32.ofInt y ↔ x < y := by
  rw [Int32.lt_iff_toInt_lt, zto_of hx, zto_of hy]
theorem zof_le {x y : Int} (hx : zI32 x) (hy : zI32 y) : Int32.ofInt x ≤ Int32.ofInt y ↔ x ≤ y := by
  rw [Int32.le_iff_toInt_le, zto_of hx, zto_of hy]
theorem zI32_0 : zI32 0 := by unfold zI32; omega
theorem zof_0 : Int32.ofInt 0 = 0 := rfl
theorem zof_toN {x : Int} (h : zI32 x) : (Int32.ofInt x).toNatClampNeg = x.toNat := Int32.toNatClampNeg_ofInt_of_le (by have := h.1; omega) (by have := h.2; omega)
theorem zofL_inj {x y : Int} (hx : zI64 x) (hy : zI64 y) : Int64.ofInt x = Int64.ofInt y ↔ x = y := ⟨fun h => by rw [← zto_ofL hx, ← zto_ofL hy, h], fun h => by rw [h]⟩
theorem zofL_lt {x y : Int} (hx : zI64 x) (hy : zI64 y) : Int64.ofInt x < Int64.ofInt y ↔ x < y := by
  rw [Int64.lt_iff_toInt_lt, zto_ofL hx, zto_ofL hy]
theorem zdiv_of {x y : Int} (hx : zI32 x) (hy : zI32 y) : Int32.ofInt x / Int32.ofInt y = Int32.ofInt (zw (Int.tdiv x y)) := by
  rw [zof_w]
  apply Int32.toInt_inj.1
  rw [Int32.toInt_div, zto_of hx, zto_of hy, Int32.toInt_ofInt]
theorem zdivL_of {x y : Int} (hx : zI64 x) (hy : zI64 y) : Int64.ofInt x / Int64.ofInt y = Int64.ofInt (zx (Int.tdiv x y)) := by
  rw [zof_x]
  apply Int64.toInt_inj.1
  rw [Int64.toInt_div, zto_ofL hx, zto_ofL hy, Int64.toInt_ofInt]
theorem zmodL2 {x y : Int} (hx : zI64 x) (hy : zI64 y) : Int64.ofInt x - Int64.ofInt x / Int64.ofInt y * Int64.ofInt y = Int64.ofInt (zx (Int.tmod x y)) := by
  rw [zdivL_of hx hy, zof_x, zof_x, ← Int64.ofInt_mul, ← Int64.ofInt_sub, Int.tmod_def, Int.mul_comm]
theorem zcmp_of {x y : Int} (hx : zI64 x) (hy : zI64 y) : lg_cmp (Int64.ofInt x) (Int64.ofInt y) = Int32.ofInt (zcmp x y) := by
  unfold lg_cmp zcmp
  have e1 : (Int64.ofInt x > Int64.ofInt y) ↔ y < x := zofL_lt hy hx
  have e2 := zofL_inj hx hy
  by_cases h1 : y < x
  · rw [if_pos (e1.mpr h1), if_pos h1]; rfl
  · rw [if_neg (fun h => h1 (e1.mp h)), if_neg h1]
    by_cases h2 : x = y
    · rw [if_pos (e2.mpr h2), if_pos h2]; rfl
    · rw [if_neg (fun h => h2 (e2.mp h)), if_neg h2]; rfl
theorem zI32_cmp (x y : Int) : zI32 (zcmp x y) := by
  unfold zI32 zcmp
  split
  · omega
  · split <;> omega
theorem znth_eq {α : Type} (l : List α) (k : Nat) : znth l k = l[k]? := by
  induction l generalizing k with
  | nil => simp [znth]
  | cons a l ih => cases k with
    | zero => simp [znth]
    | succ n => simp [znth, ih]
theorem zget_set (lv : zL) (i j : Nat) (v : Option zV) : zget (zset lv i v) j = if j = i ∧ i < lv.length then v else zget lv j := by
  induction lv generalizing i j with
  | nil => simp [zset, zget]
  | cons a l ih => cases i with
    | zero => cases j with
      | zero => simp [zset, zget]
      | succ n => simp [zset, zget]
    | succ i => cases j with
      | zero => simp [zset, zget]
      | succ j => simp [zset, zget, ih]
theorem zset_length (lv : zL) (i : Nat) (v : Option zV) : (zset lv i v).length = lv.length := by
  induction lv generalizing i with
  | nil => simp [zset]
  | cons a l ih => cases i <;> simp [zset, ih]
theorem zkill_get {lv : zL} {i j : Nat} {v : zV} (h : zget (zkill lv i) j = some v) : zget lv j = some v ∧ (j + 1 = i → ∀ x, ¬ v = .inr (.inl x)) := by
  unfold zkill at h
  cases i with
  | zero => exact ⟨h, fun e => by omega⟩
  | succ n =>
    simp only at h
    cases hn : zget lv n with
    | none =>
      rw [hn] at h
      refine ⟨h, fun e x => ?_⟩
      obtain rfl : j = n := by omega
      rw [hn] at h; cases h
    | some w =>
      rw [hn] at h
      rcases w with x0 | x0 | q0
      · refine ⟨h, fun e x e2 => ?_⟩
        obtain rfl : j = n := by omega
        subst e2
        have h : zget lv j = some _ := h
        rw [hn] at h; cases h
      · have h : zget (zset lv n none) j = some v := h
        rw [zget_set] at h
        split at h
        · cases h
        · rename_i hne
          refine ⟨h, fun e x e2 => ?_⟩
          obtain rfl : j = n := by omega
          apply hne
          refine ⟨rfl, ?_⟩
          by_cases hl : j < lv.length
          · exact hl
          · exfalso
            have hz : ∀ (l : zL) (i : Nat), l.length ≤ i → zget l i = none := by
              intro l
              induction l with
              | nil => intro i _; rfl
              | cons a l ih => intro i hi; cases i with
                | zero => simp at hi
                | succ i => simp only [zget]; exact ih i (by simpa using hi)
            rw [hz lv j (by omega)] at hn; cases hn
      · refine ⟨h, fun e x e2 => ?_⟩
        obtain rfl : j = n := by omega
        subst e2
        have h : zget lv j = some _ := h
        rw [hn] at h; cases h
