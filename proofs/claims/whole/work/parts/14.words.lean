/-! words of the tables by their places -/
def zTk : Nat → List Cond
  | 0 => k2_sels lw_privs
  | 1 => tables_1_1
  | 2 => tables_1_2
  | 3 => tables_1_3
  | 4 => tables_1_4
  | 5 => tables_1_5
  | 6 => tables_1_6
  | 7 => tables_1_7
  | 8 => tables_1_8
  | 9 => tables_1_9
  | _ => tables_1_10
theorem zTk_in (k : Nat) {w : Cond} (h : w ∈ zTk k) : w ∈ lw_tbl := by
  unfold lw_tbl tables_1
  simp only [List.mem_append]
  unfold zTk at h
  split at h
  · exact Or.inl h
  · exact Or.inr (Or.inl h)
  · exact Or.inr (Or.inr (Or.inl h))
  · exact Or.inr (Or.inr (Or.inr (Or.inl h)))
  · exact Or.inr (Or.inr (Or.inr (Or.inr (Or.inl h))))
  · exact Or.inr (Or.inr (Or.inr (Or.inr (Or.inr (Or.inl h)))))
  · exact Or.inr (Or.inr (Or.inr (Or.inr (Or.inr (Or.inr (Or.inl h))))))
  · exact Or.inr (Or.inr (Or.inr (Or.inr (Or.inr (Or.inr (Or.inr (Or.inl h)))))))
  · exact Or.inr (Or.inr (Or.inr (Or.inr (Or.inr (Or.inr (Or.inr (Or.inr (Or.inl h))))))))
  · exact Or.inr (Or.inr (Or.inr (Or.inr (Or.inr (Or.inr (Or.inr (Or.inr (Or.inr (Or.inl h)))))))))
  · exact Or.inr (Or.inr (Or.inr (Or.inr (Or.inr (Or.inr (Or.inr (Or.inr (Or.inr (Or.inr (h))))))))))
theorem zmA (k j : Nat) {w : Cond} (h : (zTk k)[j]? = some w) (hg : goodWord w = true) : w ∈ zTb := List.mem_filter.mpr ⟨zTk_in k (List.mem_of_getElem? h), hg⟩
theorem zmN (k j : Nat) {w : Cond} (h : (zTk k)[j]? = some w) (hg : zNst w = true) : w ∈ zNw := List.mem_filter.mpr ⟨zTk_in k (List.mem_of_getElem? h), hg⟩
/-- words of a list, each at its place -/
def zats : List (Nat × Nat) → List Cond → Bool
  | [], [] => true
  | q :: l, w :: ws => decide ((zTk q.1)[q.2]? = some w) && (goodWord w && zats l ws)
  | _, _ => false
theorem zats_ok : ∀ (l : List (Nat × Nat)) (ws : List Cond), zats l ws = true → ∀ w ∈ ws, w ∈ zTb
  | [], [], _, w, hw => by cases hw
  | q :: l, w :: ws, h, v, hv => by
    simp only [zats, Bool.and_eq_true] at h
    rcases List.mem_cons.mp hv with rfl | hv
    · exact zmA q.1 q.2 (of_decide_eq_true h.1) h.2.1
    · exact zats_ok l ws h.2.2 v hv
  | [], w :: ws, h, v, hv => by cases h
  | q :: l, [], h, v, hv => by cases hv
theorem zcw_0 : ∀ w ∈ u_ws RX0 TX0 15, w ∈ zTb := zats_ok [(2, 103), (2, 105), (2, 107), (2, 109), (2, 111), (2, 113), (2, 115), (2, 117), (2, 119), (2, 121), (2, 123), (2, 125), (2, 127), (2, 129), (2, 131)] _ (by decide +kernel)
theorem zcw_1 : ∀ w ∈ u_ws RX1 TX1 11, w ∈ zTb := zats_ok [(2, 154), (2, 156), (2, 158), (2, 160), (2, 162), (2, 164), (2, 166), (2, 168), (2, 170), (2, 172), (2, 174)] _ (by decide +kernel)
theorem zcw_2 : ∀ w ∈ u_ws RX2 TX2 10, w ∈ zTb := zats_ok [(3, 25), (3, 27), (3, 29), (3, 31), (3, 33), (3, 35), (3, 37), (3, 39), (3, 41), (3, 43)] _ (by decide +kernel)
theorem zcw_3 : ∀ w ∈ u_ws RX3 TX3 7, w ∈ zTb := zats_ok [(1, 111), (1, 113), (1, 115), (1, 117), (1, 119), (1, 121), (1, 123)] _ (by decide +kernel)
theorem zcw_4 : ∀ w ∈ u_ws RX4 TX4 6, w ∈ zTb := zats_ok [(1, 66), (1, 68), (1, 70), (1, 72), (1, 74), (1, 76)] _ (by decide +kernel)
theorem zcw_5 : ∀ w ∈ u_ws RX5 TX5 2, w ∈ zTb := zats_ok [(1, 176), (1, 178)] _ (by decide +kernel)
theorem zcw_6 : ∀ w ∈ u_ws RX6 TX6 10, w ∈ zTb := zats_ok [(1, 145), (1, 147), (1, 149), (1, 151), (1, 153), (1, 155), (1, 157), (1, 159), (1, 161), (1, 163)] _ (by decide +kernel)
theorem zcw_7 : ∀ w ∈ u_ws RX7 TX7 7, w ∈ zTb := zats_ok [(1, 219), (1, 221), (1, 223), (1, 225), (1, 227), (1, 229), (1, 231)] _ (by decide +kernel)
theorem zcw_8 : ∀ w ∈ u_ws RX8 TX8 18, w ∈ zTb := zats_ok [(2, 209), (2, 211), (2, 213), (2, 215), (2, 217), (2, 219), (2, 221), (2, 223), (2, 225), (2, 227), (2, 229), (2, 231), (2, 233), (2, 235), (2, 237), (2, 239), (3, 1), (3, 3)] _ (by decide +kernel)
theorem zcw_9 : ∀ w ∈ u_ws RX9 TX9 14, w ∈ zTb := zats_ok [(2, 50), (2, 52), (2, 54), (2, 56), (2, 58), (2, 60), (2, 62), (2, 64), (2, 66), (2, 68), (2, 70), (2, 72), (2, 74), (2, 76)] _ (by decide +kernel)
theorem zcw_10 : ∀ w ∈ u_ws RX10 TX10 6, w ∈ zTb := zats_ok [(2, 14), (2, 16), (2, 18), (2, 20), (2, 22), (2, 24)] _ (by decide +kernel)
theorem zcw_11 : ∀ w ∈ u_ws RX11 TX11 14, w ∈ zTb := zats_ok [(3, 60), (3, 62), (3, 64), (3, 66), (3, 68), (3, 70), (3, 72), (3, 74), (3, 76), (3, 78), (3, 80), (3, 82), (3, 84), (3, 86)] _ (by decide +kernel)
theorem zcw_12 : ∀ w ∈ u_ws RX12 TX12 84, w ∈ zTb := zats_ok [(7, 129), (7, 131), (7, 133), (7, 135), (7, 137), (7, 139), (7, 141), (7, 143), (7, 145), (7, 147), (7, 149), (7, 151), (7, 153), (7, 155), (7, 157), (7, 159), (7, 161), (7, 163), (7, 165), (7, 167), (7, 169), (7, 171), (7, 173), (7, 175), (7, 177), (7, 179), (7, 181), (7, 183), (7, 185), (7, 187), (7, 189), (7, 191), (7, 193), (7, 195), (7, 197), (7, 199), (7, 201), (7, 203), (7, 205), (7, 207), (7, 209), (7, 211), (7, 213), (7, 215), (7, 217), (7, 219), (7, 221), (7, 223), (7, 225), (7, 227), (7, 229), (7, 231), (7, 233), (7, 235), (7, 237), (7, 239), (8, 1), (8, 3), (8, 5), (8, 7), (8, 9), (8, 11), (8, 13), (8, 15), (8, 17), (8, 19), (8, 21), (8, 23), (8, 25), (8, 27), (8, 29), (8, 31), (8, 33), (8, 35), (8, 37), (8, 39), (8, 41), (8, 43), (8, 45), (8, 47), (8, 49), (8, 51), (8, 53), (8, 55)] _ (by decide +kernel)
theorem zCf_ok : zCf := by
  intro c C T N h
  match c, h with
  | 0, h => cases h; exact ⟨zcw_0, nmX0, tyX0, tyX0_ok⟩
  | 1, h => cases h; exact ⟨zcw_1, nmX1, tyX1, tyX1_ok⟩
  | 2, h => cases h; exact ⟨zcw_2, nmX2, tyX2, tyX2_ok⟩
  | 3, h => cases h; exact ⟨zcw_3, nmX3, tyX3, tyX3_ok⟩
  | 4, h => cases h; exact ⟨zcw_4, nmX4, tyX4, tyX4_ok⟩
  | 5, h => cases h; exact ⟨zcw_5, nmX5, tyX5, tyX5_ok⟩
  | 6, h => cases h; exact ⟨zcw_6, nmX6, tyX6, tyX6_ok⟩
  | 7, h => cases h; exact ⟨zcw_7, nmX7, tyX7, tyX7_ok⟩
  | 8, h => cases h; exact ⟨zcw_8, nmX8, tyX8, tyX8_ok⟩
  | 9, h => cases h; exact ⟨zcw_9, nmX9, tyX9, tyX9_ok⟩
  | 10, h => cases h; exact ⟨zcw_10, nmX10, tyX10, tyX10_ok⟩
  | 11, h => cases h; exact ⟨zcw_11, nmX11, tyX11, tyX11_ok⟩
  | 12, h => cases h; exact ⟨zcw_12, nmX12, tyX12, tyX12_ok⟩
  | n + 13, h => simp at h
/-- what the tables say of a callee -/
def zCe (id n : Nat) : Prop := Cond.initialized (zMt id).1.cls ∈ zTb ∧ Cond.code (zMt id).1 (zMt id).2.1 (zMt id).2.2.1 (zMt id).2.2.2.1 ∈ zTb ∧
  ((zMt id).1.cls ≠ "java/lang/invoke/MethodHandle" ∧ (zMt id).1.cls ≠ "java/lang/invoke/VarHandle" ∧ (parseMethodDescriptor (zMt id).1.desc).map (fun q => q.parameters.length) = some n) ∧ (zMt id).2.2.1 ≤ 45
def zVe (id c : Nat) : Prop := Cond.instanceMethod (zMt id).1 ∈ zTb ∧ Cond.selects (zMt id).1.cls (zMt id).1 (zMt id).1 ∈ zTb ∧ ∃ T N, vwCl[c]? = some ((zMt id).1.cls, T, N)
