-- needs au
/-! each operation: both sides answer alike, and the state stands behind it (laid by program) -/
def zInv (n : Int) (μ : zM) : Prop := ∃ S : zS, cS μ S ∧ mS μ S ∧ iS n S
def zBoth (g : zG) (d idC idM : Nat) (as : List zV) (μ : zM) (n : Int) : Prop := zCall g d idC (.inr (.inr ((0, 11), 0)) :: as) μ (fun v μ1 => ∃ a : Int, v = some (.inl a) ∧ zCall g d idM (.inr (.inr ((0, 12), 119)) :: as) μ1 (fun v2 μ2 => v2 = some (.inl a) ∧ zInv (n + 1) μ2))
def zHi (μ : zM) : zM := fun j => bif Nat.ble 119 j && Nat.ble j 175 then μ j else fun _ => 0
theorem mS_hi (μ : zM) (S : zS) : mS (zHi μ) S = mS μ S := rfl
theorem mS.fr {μ μ' : zM} {S : zS} (h : mS μ S) (e : ∀ j, 119 ≤ j → j ≤ 175 → μ' j = μ j) : mS μ' S := by
  have q : zHi μ' = zHi μ := by
    funext j
    unfold zHi
    cases b : (Nat.ble 119 j && Nat.ble j 175)
    · rfl
    · rw [Bool.and_eq_true] at b
      exact e j (Nat.le_of_ble_eq_true b.1) (Nat.le_of_ble_eq_true b.2)
  rw [← mS_hi, q, mS_hi]
  exact h
theorem cS.fr {μ μ' : zM} {S : zS} (h : cS μ S) (e : ∀ j, j < 119 → μ' j = μ j) : cS μ' S := by
  obtain ⟨h1, h2, h3, h4, h5, h6, h7⟩ := h
  refine ⟨h1.same (fun j hj => e j (by omega)), h2.same (by rw [e 12 (by omega)]) (e 13 (by omega)), h3.same (by rw [e 18 (by omega)]) (e 19 (by omega)), h4.same (by rw [e 62 (by omega)]) (by rw [e 62 (by omega)]) (e 63 (by omega)) (e 64 (by omega)), h5.same (e 71 (by omega)) (e 72 (by omega)) (e 10 (by omega)) (e 11 (by omega)), h6.same (by rw [e 78 (by omega)]) (fun j _ _ => e j (by omega)), h7.same (by rw [e 0 (by omega)]) (fun j _ _ => e j (by omega))⟩
theorem mS.ec {μ μ' : zM} {S : zS} (h : mS μ S) (e : zEc μ' μ) : mS μ' S := h.fr (fun j hj _ => e j hj)
theorem cS.ed {μ μ' : zM} {S : zS} (h : cS μ S) (e : zEd μ' μ) : cS μ' S := h.fr (fun j hj => e j (Or.inl hj))
section
variable {g : zG} {d : Nat} {μ : zM} {n x1 x2 x3 x4 : Int}
theorem zb_ring (hd : 400 ≤ d) (h : zInv n μ) (hn : n + 1 ≤ 512) (h1 : zI32 x1) : zBoth g d 108 170 [.inl x1] μ n := by
  obtain ⟨S, hC, hM, hI⟩ := h
  exact C_ring (hd := by omega) (hC := hC) (hI := hI) (h := fun μ1 e1 hC1 => ⟨_, rfl, M_ring (hd := by omega) (hC := hM.ec e1) (hI := hI) (h := fun μ2 e2 hM2 => ⟨rfl, _, hC1.ed e2, hM2, i_ring (h := hI) (hn := hn)⟩)⟩)
theorem zb_stall (hd : 400 ≤ d) (h : zInv n μ) (hn : n + 1 ≤ 512) (h1 : zI32 x1) (h2 : zI32 x2) (h3 : zI32 x3) : zBoth g d 109 172 [.inl x1, .inl x2, .inl x3] μ n := by
  obtain ⟨S, hC, hM, hI⟩ := h
  exact C_stall (hd := by omega) (hC := hC) (hI := hI) (h := fun μ1 e1 hC1 => ⟨_, rfl, M_stall (hd := by omega) (hC := hM.ec e1) (hI := hI) (h := fun μ2 e2 hM2 => ⟨rfl, _, hC1.ed e2, hM2, i_stall (h := hI) (hn := hn)⟩)⟩)
theorem zb_sheet (hd : 400 ≤ d) (h : zInv n μ) (hn : n + 1 ≤ 512) (h1 : zI32 x1) (h2 : zI32 x2) (h3 : zI32 x3) (h4 : zI32 x4) : zBoth g d 110 173 [.inl x1, .inl x2, .inl x3, .inl x4] μ n := by
  obtain ⟨S, hC, hM, hI⟩ := h
  exact C_sheet (hd := by omega) (hC := hC) (hI := hI) (h := fun μ1 e1 hC1 => ⟨_, rfl, M_sheet (hd := by omega) (hC := hM.ec e1) (hI := hI) (h := fun μ2 e2 hM2 => ⟨rfl, _, hC1.ed e2, hM2, i_sheet (h := hI) (hn := hn)⟩)⟩)
theorem zb_shut (hd : 400 ≤ d) (h : zInv n μ) (hn : n + 1 ≤ 512) (h1 : zI32 x1) (h2 : zI32 x2) (hb : x2 = 0 ∨ x2 = 1) : zBoth g d 111 174 [.inl x1, .inl x2] μ n := by
  obtain ⟨S, hC, hM, hI⟩ := h
  exact C_shut (hd := by omega) (hb := hb) (hC := hC) (hI := hI) (h := fun μ1 e1 hC1 => ⟨_, rfl, M_shut (hd := by omega) (hb := hb) (hC := hM.ec e1) (hI := hI) (h := fun μ2 e2 hM2 => ⟨rfl, _, hC1.ed e2, hM2, i_shut (hb := hb) (h := hI) (hn := hn)⟩)⟩)
theorem zb_set (hd : 400 ≤ d) (h : zInv n μ) (hn : n + 1 ≤ 512) (h1 : zI32 x1) (h2 : zI32 x2) : zBoth g d 112 175 [.inl x1, .inl x2] μ n := by
  obtain ⟨S, hC, hM, hI⟩ := h
  exact C_set (hC := hC) (h := fun μ1 e1 hC1 => ⟨_, rfl, M_set (hd := by omega) (hC := hM.ec e1) (h := fun μ2 e2 hM2 => ⟨rfl, _, hC1.ed e2, hM2, i_set (h := hI) (hn := hn)⟩)⟩)
theorem zb_steps (hd : 400 ≤ d) (h : zInv n μ) (hn : n + 1 ≤ 512) (h1 : zI32 x1) (h2 : zI32 x2) : zBoth g d 113 177 [.inl x1, .inl x2] μ n := by
  obtain ⟨S, hC, hM, hI⟩ := h
  exact C_steps (hd := by omega) (hC := hC) (hI := hI) (h := fun μ1 e1 hC1 => ⟨_, rfl, M_steps (hd := by omega) (hC := hM.ec e1) (hI := hI) (h := fun μ2 e2 hM2 => ⟨rfl, _, hC1.ed e2, hM2, i_steps (h := hI) (hn := hn)⟩)⟩)
theorem zb_sign (hd : 400 ≤ d) (h : zInv n μ) (hn : n + 1 ≤ 512) (h1 : zI32 x1) : zBoth g d 114 178 [.inl x1] μ n := by
  obtain ⟨S, hC, hM, hI⟩ := h
  exact C_sign (hd := by omega) (hC := hC) (hI := hI) (h := fun μ1 e1 hC1 => ⟨_, rfl, M_sign (hd := by omega) (hC := hM.ec e1) (hI := hI) (h := fun μ2 e2 hM2 => ⟨rfl, _, hC1.ed e2, hM2, i_sign (h := hI) (hn := hn)⟩)⟩)
theorem zb_end (hd : 400 ≤ d) (h : zInv n μ) (hn : n + 1 ≤ 512) (h1 : zI32 x1) : zBoth g d 115 179 [.inl x1] μ n := by
  obtain ⟨S, hC, hM, hI⟩ := h
  exact C_end (hd := by omega) (hC := hC) (h := fun μ1 e1 hC1 => ⟨_, rfl, M_end (hd := by omega) (hC := hM.ec e1) (h := fun μ2 e2 hM2 => ⟨rfl, _, hC1.ed e2, hM2, i_end (h := hI) (hn := hn)⟩)⟩)
theorem zb_rule (hd : 400 ≤ d) (h : zInv n μ) (hn : n + 1 ≤ 512) : zBoth g d 116 190 [] μ n := by
  obtain ⟨S, hC, hM, hI⟩ := h
  exact C_rule (hd := by omega) (hC := hC) (hI := hI) (h := fun μ1 e1 hC1 => ⟨_, rfl, M_rule (hd := by omega) (hC := hM.ec e1) (hI := hI) (h := fun μ2 e2 hM2 => ⟨rfl, _, hC1.ed e2, hM2, i_rule (h := hI) (hn := hn)⟩)⟩)
theorem zb_engine (hd : 400 ≤ d) (h : zInv n μ) (hn : n + 1 ≤ 512) (h1 : zI32 x1) (h2 : zI32 x2) (h3 : zI32 x3) (h4 : zI32 x4) (hb : x4 = 0 ∨ x4 = 1) : zBoth g d 117 192 [.inl x1, .inl x2, .inl x3, .inl x4] μ n := by
  obtain ⟨S, hC, hM, hI⟩ := h
  exact C_engine (hd := by omega) (hb := hb) (hC := hC) (hI := hI) (h := fun μ1 e1 hC1 => ⟨_, rfl, M_engine (hd := by omega) (hb := hb) (hC := hM.ec e1) (hI := hI) (h := fun μ2 e2 hM2 => ⟨rfl, _, hC1.ed e2, hM2, i_engine (hb := hb) (h := hI) (hn := hn)⟩)⟩)
theorem zb_light (hd : 400 ≤ d) (h : zInv n μ) (hn : n + 1 ≤ 512) (h1 : zI32 x1) : zBoth g d 118 195 [.inl x1] μ n := by
  obtain ⟨S, hC, hM, hI⟩ := h
  exact C_light (hd := by omega) (hC := hC) (hI := hI) (h := fun μ1 e1 hC1 => ⟨_, rfl, M_light (hd := by omega) (hC := hM.ec e1) (hI := hI) (h := fun μ2 e2 hM2 => ⟨rfl, _, hC1.ed e2, hM2, i_light (h := hI) (hn := hn)⟩)⟩)
theorem zb_drop (hd : 400 ≤ d) (h : zInv n μ) (hn : n + 1 ≤ 512) (h1 : zI32 x1) : zBoth g d 119 196 [.inl x1] μ n := by
  obtain ⟨S, hC, hM, hI⟩ := h
  exact C_drop (hd := by omega) (hC := hC) (hI := hI) (h := fun μ1 e1 hC1 => ⟨_, rfl, M_drop (hd := by omega) (hC := hM.ec e1) (hI := hI) (h := fun μ2 e2 hM2 => ⟨rfl, _, hC1.ed e2, hM2, i_drop (h := hI) (hn := hn)⟩)⟩)
theorem zb_dead (hd : 400 ≤ d) (h : zInv n μ) (hn : n + 1 ≤ 512) (h1 : zI32 x1) (h2 : zI32 x2) (hb : x2 = 0 ∨ x2 = 1) : zBoth g d 120 197 [.inl x1, .inl x2] μ n := by
  obtain ⟨S, hC, hM, hI⟩ := h
  exact C_dead (hd := by omega) (hb := hb) (hC := hC) (hI := hI) (h := fun μ1 e1 hC1 => ⟨_, rfl, M_dead (hd := by omega) (hb := hb) (hC := hM.ec e1) (hI := hI) (h := fun μ2 e2 hM2 => ⟨rfl, _, hC1.ed e2, hM2, i_dead (hb := hb) (h := hI) (hn := hn)⟩)⟩)
theorem zb_takes (hd : 400 ≤ d) (h : zInv n μ) (hn : n + 1 ≤ 512) (h1 : zI32 x1) (h2 : zI32 x2) : zBoth g d 122 204 [.inl x1, .inl x2] μ n := by
  obtain ⟨S, hC, hM, hI⟩ := h
  exact C_takes (hd := by omega) (hC := hC) (hI := hI) (h := fun μ1 e1 hC1 => ⟨_, rfl, M_takes (hd := by omega) (hC := hM.ec e1) (hI := hI) (h := fun μ2 e2 hM2 => ⟨rfl, _, hC1.ed e2, hM2, i_takes (h := hI) (hn := hn)⟩)⟩)
theorem zb_smoke (hd : 400 ≤ d) (h : zInv n μ) (hn : n + 1 ≤ 512) : zBoth g d 123 206 [] μ n := by
  obtain ⟨S, hC, hM, hI⟩ := h
  exact C_smoke (hd := by omega) (hC := hC) (hI := hI) (h := fun μ1 e1 hC1 => ⟨_, rfl, M_smoke (hd := by omega) (hC := hM.ec e1) (hI := hI) (h := fun μ2 e2 hM2 => ⟨rfl, _, hC1.ed e2, hM2, i_smoke (h := hI) (hn := hn)⟩)⟩)
theorem zb_pass (hd : 400 ≤ d) (h : zInv n μ) (hn : n + 1 ≤ 512) (h1 : zI32 x1) : zBoth g d 124 207 [.inl x1] μ n := by
  obtain ⟨S, hC, hM, hI⟩ := h
  exact C_pass (hC := hC) (hI := hI) (h := fun μ1 e1 hC1 => ⟨_, rfl, M_pass (hd := by omega) (hC := hM.ec e1) (hI := hI) (h := fun μ2 e2 hM2 => ⟨rfl, _, hC1.ed e2, hM2, i_pass (h := hI) (hn := hn)⟩)⟩)
theorem zb_move (hd : 400 ≤ d) (h : zInv n μ) (hn : n + 1 ≤ 512) (h1 : zI32 x1) (h2 : zI32 x2) : zBoth g d 125 214 [.inl x1, .inl x2] μ n := by
  obtain ⟨S, hC, hM, hI⟩ := h
  exact C_move (hd := by omega) (hC := hC) (hI := hI) (h := fun μ1 e1 hC1 => ⟨_, rfl, M_move (hd := by omega) (hC := hM.ec e1) (hI := hI) (h := fun μ2 e2 hM2 => ⟨rfl, _, hC1.ed e2, hM2, i_move (h := hI) (hn := hn)⟩)⟩)
theorem zb_drag (hd : 400 ≤ d) (h : zInv n μ) (hn : n + 1 ≤ 512) (h1 : zI32 x1) (h2 : zI32 x2) (h3 : zI32 x3) : zBoth g d 126 215 [.inl x1, .inl x2, .inl x3] μ n := by
  obtain ⟨S, hC, hM, hI⟩ := h
  exact C_drag (hd := by omega) (hC := hC) (hI := hI) (h := fun μ1 e1 hC1 => ⟨_, rfl, M_drag (hd := by omega) (hC := hM.ec e1) (hI := hI) (h := fun μ2 e2 hM2 => ⟨rfl, _, hC1.ed e2, hM2, i_drag (h := hI) (hn := hn)⟩)⟩)
theorem zb_free (hd : 400 ≤ d) (h : zInv n μ) (hn : n + 1 ≤ 512) (h1 : zI32 x1) : zBoth g d 127 217 [.inl x1] μ n := by
  obtain ⟨S, hC, hM, hI⟩ := h
  exact C_free (hd := by omega) (hC := hC) (hI := hI) (h := fun μ1 e1 hC1 => ⟨_, rfl, M_free (hd := by omega) (hC := hM.ec e1) (hI := hI) (h := fun μ2 e2 hM2 => ⟨rfl, _, hC1.ed e2, hM2, i_free (h := hI) (hn := hn)⟩)⟩)
theorem zb_order (hd : 400 ≤ d) (h : zInv n μ) (hn : n + 1 ≤ 512) (h1 : zI32 x1) : zBoth g d 128 222 [.inl x1] μ n := by
  obtain ⟨S, hC, hM, hI⟩ := h
  exact C_order (hd := by omega) (hx := h1) (hC := hC) (hI := hI) (h := fun μ1 e1 hC1 => ⟨_, rfl, M_order (hd := by omega) (hx := h1) (hC := hM.ec e1) (hI := hI) (h := fun μ2 e2 hM2 => ⟨rfl, _, hC1.ed e2, hM2, i_order (hx := h1) (h := hI) (hn := hn)⟩)⟩)
theorem zb_clear (hd : 400 ≤ d) (h : zInv n μ) (hn : n + 1 ≤ 512) (h1 : zI32 x1) : zBoth g d 129 224 [.inl x1] μ n := by
  obtain ⟨S, hC, hM, hI⟩ := h
  exact C_clear (hd := by omega) (hC := hC) (hI := hI) (h := fun μ1 e1 hC1 => ⟨_, rfl, M_clear (hd := by omega) (hC := hM.ec e1) (hI := hI) (h := fun μ2 e2 hM2 => ⟨rfl, _, hC1.ed e2, hM2, i_clear (h := hI) (hn := hn)⟩)⟩)
theorem zb_under (hd : 400 ≤ d) (h : zInv n μ) (hn : n + 1 ≤ 512) : zBoth g d 130 226 [] μ n := by
  obtain ⟨S, hC, hM, hI⟩ := h
  exact C_under (hd := by omega) (hC := hC) (hI := hI) (h := fun μ1 e1 hC1 => ⟨_, rfl, M_under (hd := by omega) (hC := hM.ec e1) (hI := hI) (h := fun μ2 e2 hM2 => ⟨rfl, _, hC1.ed e2, hM2, i_under (h := hI) (hn := hn)⟩)⟩)
theorem zb_comes (hd : 400 ≤ d) (h : zInv n μ) (hn : n + 1 ≤ 512) (h1 : zI32 x1) : zBoth g d 131 227 [.inl x1] μ n := by
  obtain ⟨S, hC, hM, hI⟩ := h
  exact C_comes (hd := by omega) (hC := hC) (hI := hI) (h := fun μ1 e1 hC1 => ⟨_, rfl, M_comes (hd := by omega) (hC := hM.ec e1) (hI := hI) (h := fun μ2 e2 hM2 => ⟨rfl, _, hC1.ed e2, hM2, i_comes (h := hI) (hn := hn)⟩)⟩)
theorem zb_leaves (hd : 400 ≤ d) (h : zInv n μ) (hn : n + 1 ≤ 512) (h1 : zI32 x1) : zBoth g d 132 228 [.inl x1] μ n := by
  obtain ⟨S, hC, hM, hI⟩ := h
  exact C_leaves (hd := by omega) (hC := hC) (hI := hI) (h := fun μ1 e1 hC1 => ⟨_, rfl, M_leaves (hd := by omega) (hC := hM.ec e1) (hI := hI) (h := fun μ2 e2 hM2 => ⟨rfl, _, hC1.ed e2, hM2, i_leaves (h := hI) (hn := hn)⟩)⟩)
theorem zb_nobody (hd : 400 ≤ d) (h : zInv n μ) (hn : n + 1 ≤ 512) : zBoth g d 133 230 [] μ n := by
  obtain ⟨S, hC, hM, hI⟩ := h
  exact C_nobody (hd := by omega) (hC := hC) (h := fun μ1 e1 hC1 => ⟨_, rfl, M_nobody (hC := hM.ec e1) (h := fun μ2 e2 hM2 => ⟨rfl, _, hC1.ed e2, hM2, i_nobody (h := hI) (hn := hn)⟩)⟩)
theorem zb_put (hd : 400 ≤ d) (h : zInv n μ) (hn : n + 1 ≤ 512) : zBoth g d 134 236 [] μ n := by
  obtain ⟨S, hC, hM, hI⟩ := h
  exact C_put (hd := by omega) (hC := hC) (hI := hI) (h := fun μ1 e1 hC1 => ⟨_, rfl, M_put (hd := by omega) (hC := hM.ec e1) (hI := hI) (h := fun μ2 e2 hM2 => ⟨rfl, _, hC1.ed e2, hM2, i_put (h := hI) (hn := hn)⟩)⟩)
theorem zb_room (hd : 400 ≤ d) (h : zInv n μ) (hn : n + 1 ≤ 512) (h1 : zI32 x1) : zBoth g d 135 239 [.inl x1] μ n := by
  obtain ⟨S, hC, hM, hI⟩ := h
  exact C_room (hd := by omega) (hx := h1) (hC := hC) (hI := hI) (h := fun μ1 e1 hC1 => ⟨_, rfl, M_room (hd := by omega) (hC := hM.ec e1) (hI := hI) (h := fun μ2 e2 hM2 => ⟨rfl, _, hC1.ed e2, hM2, i_room (h := hI) (hn := hn)⟩)⟩)
theorem zb_coal (hd : 400 ≤ d) (h : zInv n μ) (hn : n + 1 ≤ 512) (h1 : zI32 x1) (h2 : zI32 x2) (h3 : zI32 x3) : zBoth g d 136 240 [.inl x1, .inl x2, .inl x3] μ n := by
  obtain ⟨S, hC, hM, hI⟩ := h
  exact C_coal (hC := hC) (h := fun μ1 e1 hC1 => ⟨_, rfl, M_coal (hd := by omega) (hC := hM.ec e1) (h := fun μ2 e2 hM2 => ⟨rfl, _, hC1.ed e2, hM2, i_coal (h := hI) (hn := hn)⟩)⟩)
theorem zb_wants (hd : 400 ≤ d) (h : zInv n μ) (hn : n + 1 ≤ 512) (h1 : zI32 x1) (h2 : zI32 x2) (h3 : zI32 x3) : zBoth g d 137 241 [.inl x1, .inl x2, .inl x3] μ n := by
  obtain ⟨S, hC, hM, hI⟩ := h
  exact C_wants (hd := by omega) (hC := hC) (hI := hI) (h := fun μ1 e1 hC1 => ⟨_, rfl, M_wants (hd := by omega) (hC := hM.ec e1) (hI := hI) (h := fun μ2 e2 hM2 => ⟨rfl, _, hC1.ed e2, hM2, i_wants (h := hI) (hn := hn)⟩)⟩)
theorem zb_coaled (hd : 400 ≤ d) (h : zInv n μ) (hn : n + 1 ≤ 512) (h1 : zI32 x1) : zBoth g d 138 245 [.inl x1] μ n := by
  obtain ⟨S, hC, hM, hI⟩ := h
  exact C_coaled (hd := by omega) (hx := h1) (hC := hC) (hI := hI) (h := fun μ1 e1 hC1 => ⟨_, rfl, M_coaled (hd := by omega) (hC := hM.ec e1) (hI := hI) (h := fun μ2 e2 hM2 => ⟨rfl, _, hC1.ed e2, hM2, i_share (h := hI) (hn := hn)⟩)⟩)
theorem zb_fill (hd : 400 ≤ d) (h : zInv n μ) (hn : n + 1 ≤ 512) (h1 : zI32 x1) : zBoth g d 139 246 [.inl x1] μ n := by
  obtain ⟨S, hC, hM, hI⟩ := h
  exact C_fill (hd := by omega) (hx := h1) (hC := hC) (hI := hI) (h := fun μ1 e1 hC1 => ⟨_, rfl, M_fill (hd := by omega) (hC := hM.ec e1) (hI := hI) (h := fun μ2 e2 hM2 => ⟨rfl, _, hC1.ed e2, hM2, i_share (h := hI) (hn := hn)⟩)⟩)
theorem zb_burns (hd : 400 ≤ d) (h : zInv n μ) (hn : n + 1 ≤ 512) (h1 : zI32 x1) : zBoth g d 140 248 [.inl x1] μ n := by
  obtain ⟨S, hC, hM, hI⟩ := h
  exact C_burns (hd := by omega) (hx := h1) (hC := hC) (hI := hI) (h := fun μ1 e1 hC1 => ⟨_, rfl, M_burns (hd := by omega) (hC := hM.ec e1) (hI := hI) (h := fun μ2 e2 hM2 => ⟨rfl, _, hC1.ed e2, hM2, i_burns (h := hI) (hn := hn)⟩)⟩)
theorem zb_train (hd : 400 ≤ d) (h : zInv n μ) (hn : n + 1 ≤ 512) (h1 : zI32 x1) (h2 : zI32 x2) (h3 : zI32 x3) : zBoth g d 141 249 [.inl x1, .inl x2, .inl x3] μ n := by
  obtain ⟨S, hC, hM, hI⟩ := h
  exact C_train (hd := by omega) (hC := hC) (hI := hI) (h := fun μ1 e1 hC1 => ⟨_, rfl, M_train (hd := by omega) (hC := hM.ec e1) (hI := hI) (h := fun μ2 e2 hM2 => ⟨rfl, _, hC1.ed e2, hM2, i_train (h := hI) (hn := hn)⟩)⟩)
theorem zb_plan (hd : 400 ≤ d) (h : zInv n μ) (hn : n + 1 ≤ 512) (h1 : zI32 x1) (h2 : zI32 x2) : zBoth g d 142 251 [.inl x1, .inl x2] μ n := by
  obtain ⟨S, hC, hM, hI⟩ := h
  exact C_plan (hd := by omega) (hC := hC) (hI := hI) (h := fun μ1 e1 hC1 => ⟨_, rfl, M_plan (hd := by omega) (hC := hM.ec e1) (hI := hI) (h := fun μ2 e2 hM2 => ⟨rfl, _, hC1.ed e2, hM2, i_plan (h := hI) (hn := hn)⟩)⟩)
theorem zb_fits (hd : 400 ≤ d) (h : zInv n μ) (hn : n + 1 ≤ 512) (h1 : zI32 x1) (h2 : zI32 x2) : zBoth g d 143 253 [.inl x1, .inl x2] μ n := by
  obtain ⟨S, hC, hM, hI⟩ := h
  exact C_fits (hd := by omega) (hC := hC) (hI := hI) (h := fun μ1 e1 hC1 => ⟨_, rfl, M_fits (hd := by omega) (hC := hM.ec e1) (hI := hI) (h := fun μ2 e2 hM2 => ⟨rfl, _, hC1.ed e2, hM2, i_fits (h := hI) (hn := hn)⟩)⟩)
theorem zb_most (hd : 400 ≤ d) (h : zInv n μ) (hn : n + 1 ≤ 512) : zBoth g d 144 257 [] μ n := by
  obtain ⟨S, hC, hM, hI⟩ := h
  exact C_most (hd := by omega) (hC := hC) (hI := hI) (h := fun μ1 e1 hC1 => ⟨_, rfl, M_most (hd := by omega) (hC := hM.ec e1) (hI := hI) (h := fun μ2 e2 hM2 => ⟨rfl, _, hC1.ed e2, hM2, i_most (h := hI) (hn := hn)⟩)⟩)
theorem zb_fails (hd : 400 ≤ d) (h : zInv n μ) (hn : n + 1 ≤ 512) (h1 : zI32 x1) : zBoth g d 145 258 [.inl x1] μ n := by
  obtain ⟨S, hC, hM, hI⟩ := h
  exact C_fails (hd := by omega) (hC := hC) (hI := hI) (h := fun μ1 e1 hC1 => ⟨_, rfl, M_fails (hd := by omega) (hC := hM.ec e1) (hI := hI) (h := fun μ2 e2 hM2 => ⟨rfl, _, hC1.ed e2, hM2, i_fails (h := hI) (hn := hn)⟩)⟩)
theorem zb_soonest (hd : 400 ≤ d) (h : zInv n μ) (hn : n + 1 ≤ 512) (h1 : zI32 x1) : zBoth g d 146 259 [.inl x1] μ n := by
  obtain ⟨S, hC, hM, hI⟩ := h
  exact C_soonest (hd := by omega) (hC := hC) (hI := hI) (h := fun μ1 e1 hC1 => ⟨_, rfl, M_soonest (hd := by omega) (hC := hM.ec e1) (hI := hI) (h := fun μ2 e2 hM2 => ⟨rfl, _, hC1.ed e2, hM2, i_soonest (h := hI) (hn := hn)⟩)⟩)
theorem zb_wrong (hd : 400 ≤ d) (h : zInv n μ) (hn : n + 1 ≤ 512) : zBoth g d 147 260 [] μ n := by
  obtain ⟨S, hC, hM, hI⟩ := h
  exact C_wrong (hd := by omega) (hC := hC) (hI := hI) (h := fun μ1 e1 hC1 => ⟨_, rfl, M_wrong (hd := by omega) (hC := hM.ec e1) (hI := hI) (h := fun μ2 e2 hM2 => ⟨rfl, _, hC1.ed e2, hM2, i_wrong (h := hI) (hn := hn)⟩)⟩)
theorem zb_exchange (hd : 400 ≤ d) (h : zInv n μ) (hn : n + 1 ≤ 512) : zBoth g d 148 262 [] μ n := by
  obtain ⟨S, hC, hM, hI⟩ := h
  exact C_exchange (hd := by omega) (hC := hC) (hI := hI) (h := fun μ1 e1 hC1 => ⟨_, rfl, M_exchange (hd := by omega) (hC := hM.ec e1) (hI := hI) (h := fun μ2 e2 hM2 => ⟨rfl, _, hC1.ed e2, hM2, i_exchange (h := hI) (hn := hn)⟩)⟩)
theorem zb_crews (hd : 400 ≤ d) (h : zInv n μ) (hn : n + 1 ≤ 512) (h1 : zI32 x1) (h2 : zI32 x2) : zBoth g d 149 265 [.inl x1, .inl x2] μ n := by
  obtain ⟨S, hC, hM, hI⟩ := h
  exact C_crews (hd := by omega) (hC := hC) (hI := hI) (h := fun μ1 e1 hC1 => ⟨_, rfl, M_crews (hd := by omega) (hC := hM.ec e1) (hI := hI) (h := fun μ2 e2 hM2 => ⟨rfl, _, hC1.ed e2, hM2, i_crews (h := hI) (hn := hn)⟩)⟩)
theorem zb_fires (hd : 400 ≤ d) (h : zInv n μ) (hn : n + 1 ≤ 512) (h1 : zI32 x1) (h2 : zI32 x2) : zBoth g d 150 268 [.inl x1, .inl x2] μ n := by
  obtain ⟨S, hC, hM, hI⟩ := h
  exact C_fires (hd := by omega) (hC := hC) (hI := hI) (h := fun μ1 e1 hC1 => ⟨_, rfl, M_fires (hd := by omega) (hC := hM.ec e1) (hI := hI) (h := fun μ2 e2 hM2 => ⟨rfl, _, hC1.ed e2, hM2, i_fires (h := hI) (hn := hn)⟩)⟩)
theorem zb_men (hd : 400 ≤ d) (h : zInv n μ) (hn : n + 1 ≤ 512) (h1 : zI32 x1) : zBoth g d 151 269 [.inl x1] μ n := by
  obtain ⟨S, hC, hM, hI⟩ := h
  exact C_men (hd := by omega) (hC := hC) (hI := hI) (h := fun μ1 e1 hC1 => ⟨_, rfl, M_men (hd := by omega) (hC := hM.ec e1) (hI := hI) (h := fun μ2 e2 hM2 => ⟨rfl, _, hC1.ed e2, hM2, i_men (h := hI) (hn := hn)⟩)⟩)
theorem zb_frost (hd : 400 ≤ d) (h : zInv n μ) (hn : n + 1 ≤ 512) (h1 : zI32 x1) : zBoth g d 152 270 [.inl x1] μ n := by
  obtain ⟨S, hC, hM, hI⟩ := h
  exact C_frost (hd := by omega) (hC := hC) (hI := hI) (h := fun μ1 e1 hC1 => ⟨_, rfl, M_frost (hd := by omega) (hC := hM.ec e1) (hI := hI) (h := fun μ2 e2 hM2 => ⟨rfl, _, hC1.ed e2, hM2, i_frost (h := hI) (hn := hn)⟩)⟩)
theorem zb_morning (hd : 400 ≤ d) (h : zInv n μ) (hn : n + 1 ≤ 512) : zBoth g d 153 275 [] μ n := by
  obtain ⟨S, hC, hM, hI⟩ := h
  exact C_morning (hd := by omega) (hC := hC) (hI := hI) (h := fun μ1 e1 hC1 => ⟨_, rfl, M_morning (hd := by omega) (hC := hM.ec e1) (hI := hI) (h := fun μ2 e2 hM2 => ⟨rfl, _, hC1.ed e2, hM2, i_morning (h := hI) (hn := hn)⟩)⟩)
theorem zb_why (hd : 400 ≤ d) (h : zInv n μ) (hn : n + 1 ≤ 512) (h1 : zI32 x1) : zBoth g d 154 276 [.inl x1] μ n := by
  obtain ⟨S, hC, hM, hI⟩ := h
  exact C_why (hd := by omega) (hC := hC) (hI := hI) (h := fun μ1 e1 hC1 => ⟨_, rfl, M_why (hd := by omega) (hC := hM.ec e1) (hI := hI) (h := fun μ2 e2 hM2 => ⟨rfl, _, hC1.ed e2, hM2, i_why (h := hI) (hn := hn)⟩)⟩)
theorem zb_keep (hd : 400 ≤ d) (h : zInv n μ) (hn : n + 1 ≤ 512) (h1 : zI32 x1) : zBoth g d 155 277 [.inl x1] μ n := by
  obtain ⟨S, hC, hM, hI⟩ := h
  exact C_keep (hd := by omega) (hC := hC) (hI := hI) (h := fun μ1 e1 hC1 => ⟨_, rfl, M_keep (hd := by omega) (hC := hM.ec e1) (hI := hI) (h := fun μ2 e2 hM2 => ⟨rfl, _, hC1.ed e2, hM2, i_keep (h := hI) (hn := hn)⟩)⟩)
theorem zb_again (hd : 400 ≤ d) (h : zInv n μ) (hn : n + 1 ≤ 512) (h1 : zI32 x1) : zBoth g d 156 278 [.inl x1] μ n := by
  obtain ⟨S, hC, hM, hI⟩ := h
  exact C_again (hd := by omega) (hC := hC) (hI := hI) (h := fun μ1 e1 hC1 => ⟨_, rfl, M_again (hd := by omega) (hC := hM.ec e1) (hI := hI) (h := fun μ2 e2 hM2 => ⟨rfl, _, hC1.ed e2, hM2, i_again (h := hI) (hn := hn)⟩)⟩)
theorem zb_count (hd : 400 ≤ d) (h : zInv n μ) (hn : n + 1 ≤ 512) (h1 : zI32 x1) : zBoth g d 157 279 [.inl x1] μ n := by
  obtain ⟨S, hC, hM, hI⟩ := h
  exact C_count (hd := by omega) (hC := hC) (hI := hI) (h := fun μ1 e1 hC1 => ⟨_, rfl, M_count (hd := by omega) (hC := hM.ec e1) (hI := hI) (h := fun μ2 e2 hM2 => ⟨rfl, _, hC1.ed e2, hM2, i_count (h := hI) (hn := hn)⟩)⟩)
theorem zb_inside (hd : 400 ≤ d) (h : zInv n μ) (hn : n + 1 ≤ 512) (h1 : zI32 x1) : zBoth g d 158 280 [.inl x1] μ n := by
  obtain ⟨S, hC, hM, hI⟩ := h
  exact C_inside (hd := by omega) (hC := hC) (hI := hI) (h := fun μ1 e1 hC1 => ⟨_, rfl, M_inside (hd := by omega) (hC := hM.ec e1) (hI := hI) (h := fun μ2 e2 hM2 => ⟨rfl, _, hC1.ed e2, hM2, i_inside (h := hI) (hn := hn)⟩)⟩)
/-- of, row: what the law's own answers, what the reference answers -/
def zBt (g : zG) (d : Nat) (M : zMeth) (hh : List (Nat × Nat × Nat × Nat)) (idM : Nat) (as : List zV) (μ : zM) (n : Int) : Prop := ∃ (ok : Prop) (v : Int), zLM g d M hh ((.inr (.inr ((0, 11), 0)) :: as) ++ [.inr (.inr ((4, 1), 176))]) μ (zLk ok v μ) ∧ ∀ μ1 : zM, (∀ j, ¬ j = 176 → μ1 j = μ j) → zCall g d idM (.inr (.inr ((0, 12), 119)) :: as) μ1 (fun r μ2 => ∃ y : Int, r = some (.inl y) ∧ μ2 176 = μ1 176 ∧ ((ok ∧ y = v ∧ μ2 119 33 = 0) ∨ (¬ ok ∧ μ2 119 33 = 1)) ∧ zInv (n + 1) μ2)
theorem zb_of (hl : g.1.stackTraces = false) (hd : 400 ≤ d) (h : zInv n μ) (hn : n + 1 ≤ 512) : zBt g d mLof hLof 202 [.inl x1, .inl x2] μ n := by
  obtain ⟨S, hC, hM, hI⟩ := h
  refine ⟨of_ok S x1 x2, of_v S x1 x2, zL_of hl (by omega) hC hI, fun μ1 e1 => ?_⟩
  have hM1 : mS μ1 S := hM.fr (fun j h1 h2 => e1 j (by omega))
  have hC1 : cS μ1 S := hC.fr (fun j h1 => e1 j (by omega))
  exact M_of (by omega) hM1 hI (fun ok μ2 e2 hM2 t => ⟨_, rfl, e2 176 (by omega), Or.inl ⟨ok, rfl, t⟩, S, hC1.ed e2, hM2, hI.up hn⟩) (fun ok μ2 e2 hM2 t => ⟨_, rfl, e2 176 (by omega), Or.inr ⟨ok, t⟩, S, hC1.ed e2, hM2, hI.up hn⟩)
theorem zb_row (hl : g.1.stackTraces = false) (hd : 400 ≤ d) (h : zInv n μ) (hn : n + 1 ≤ 512) : zBt g d mLrow hLrow 281 [.inl x1] μ n := by
  obtain ⟨S, hC, hM, hI⟩ := h
  refine ⟨row_ok S x1, row_v S x1, zL_row hl (by omega) hC hI, fun μ1 e1 => ?_⟩
  have hM1 : mS μ1 S := hM.fr (fun j h1 h2 => e1 j (by omega))
  have hC1 : cS μ1 S := hC.fr (fun j h1 => e1 j (by omega))
  exact M_row (by omega) hM1 hI (fun ok μ2 e2 hM2 t => ⟨_, rfl, e2 176 (by omega), Or.inl ⟨ok, rfl, t⟩, S, hC1.ed e2, hM2, hI.up hn⟩) (fun ok μ2 e2 hM2 t => ⟨_, rfl, e2 176 (by omega), Or.inr ⟨ok, t⟩, S, hC1.ed e2, hM2, hI.up hn⟩)
end
