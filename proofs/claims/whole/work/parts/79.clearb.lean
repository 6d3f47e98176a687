-- needs 78
/-! clear: the class's call, whole -/
section
variable {g : zG} {d : Nat} {K : Option zV → zM → Prop} {μ μ' Y : zM} {s : Nat} {S : zS} {nn x e t p : Int}
theorem w_can (hW : y_W Y) (he : 0 ≤ e ∧ e < Y 13 3) (hc : f_can Y e p = true) (hp : 0 ≤ p ∧ p ≤ Y 13 0) (hn : Y 5 1 ≤ 399000) : y_W (f_bring Y e p (f_min Y (f_point Y e) p)) := by
  have w := hW.1
  have bp := f_point_b hW (e := e) (by omega)
  have bm := f_min_b hW bp (b := p) (by omega)
  unfold f_can f_stand at hc
  simp at hc
  have hpp : p = Y 13 0 ∨ (0 ≤ p ∧ p < Y 13 0 ∧ Y 1 p = -1) := by
    rcases hc.2.2 with q | q
    · exact Or.inl q
    · unfold f_takes at q
      simp at q
      by_cases q2 : p = Y 13 0
      · exact Or.inl q2
      · exact Or.inr ⟨by omega, by omega, q.2.1⟩
  exact w_bring hW he hc.2.1 hpp (by omega)
theorem c_bothAway {a : zBst} (hd : 10 ≤ d) (hr : zrl μ) (hv : vC μ 20 = Y) (hW : y_W Y) (hR : y_R Y) (hn : Y 5 1 ≤ 390000) (hx : 0 ≤ x ∧ x < Y 13 0) (h1 : ¬ Y 1 x = -1) (hm : f_may Y (Y 1 x) (Y 5 1) = true) (hA : cA μ true a)
    (h : ∀ μ', (∀ j, ¬ (j = 16 ∨ j = 17 ∨ j = 26 ∨ (32 ≤ j ∧ j ≤ 36)) → μ' j = μ j) → cA μ' true (cl x 3 Y 0 [] a) → K none μ') : zCall g d 85 [.inr (.inr ((0, 9), 26)), .inr (.inr ((0, 7), 20)), .inl x] μ K := by
  have w := hW.1
  have wx := (hW.2.2.1 x (by omega)).2
  have ee : cl_e Y x = Y 1 x := by unfold cl_e; rw [if_neg h1]
  have be := cl_eb hW (x := x) (by omega) (by omega)
  rw [ee] at be
  have can := fun p => cl_can (p := p) hW (x := x) (by omega) (by omega)
  rw [ee] at can
  have cc : cl x 3 Y 0 [] a = z_lp (cl_b (Y 1 x) (cl x 2) Y 0 []) (Y 13 0 + 1).toNat 0 a := by
    show (if cl_e Y x = -1 then _ else _) = _
    rw [if_neg (by omega), ee]
  have s2 : μ 22 x = Y 1 x := by rw [← hv]; exact (y_in (by omega)).symm
  have s1 : μ 21 x = Y 0 x := by rw [← hv]; exact (y_in (by omega)).symm
  refine sX9_tryBothAway (s1 := 20) ⟨by omega, ?_⟩
  show zT g d mX9_tryBothAway K 18 [_, _, _, some (.inl (μ 22 x)), _, _, _] [] μ
  rw [s2]
  have lp : ∀ (k i : Nat) (N : zM) (c : zBst), i + k = (Y 13 0 + 1).toNat → (∀ j, ¬ (j = 16 ∨ j = 17 ∨ j = 26 ∨ (32 ≤ j ∧ j ≤ 36)) → N j = μ j) → cA N true c → cl x 3 Y 0 [] a = z_lp (cl_b (Y 1 x) (cl x 2) Y 0 []) k i c → zT g d mX9_tryBothAway K 18 [some (.inr (.inr ((0, 9), 26))), some (.inr (.inr ((0, 7), 20))), some (.inl x), some (.inl (Y 1 x)), some (.inr (.inr ((0, 7), 32))), some (.inl (i : Int)), none] [] N := by
    intro k
    induction k with
    | zero =>
      intro i N c hi hE hAN hcl
      have n0 : N 1 0 = Y 13 0 := by rw [hE 1 (by omega), ← hv]; rfl
      refine sX9_tryBothAway_18 ⟨fun _ => h N hE ?_, fun q => by omega⟩
      rw [hcl]
      exact hAN
    | succ k ih2 =>
      intro i N c hi hE hAN hcl
      have n0 : N 1 0 = Y 13 0 := by rw [hE 1 (by omega), ← hv]; rfl
      have rN : zrl N := zrl_same hr (hE 12 (by omega))
      have vN : vC N 20 = Y := by rw [← hv]; exact vC_same hr (fun j _ _ => hE j (by omega)) (fun j _ _ => hE j (by omega))
      have next : ∀ M c', (∀ j, ¬ (j = 16 ∨ j = 17 ∨ j = 26 ∨ (32 ≤ j ∧ j ≤ 36)) → M j = N j) → cA M true c' → cl_b (Y 1 x) (cl x 2) Y 0 [] i c = c' → zT g d mX9_tryBothAway K 18 [some (.inr (.inr ((0, 9), 26))), some (.inr (.inr ((0, 7), 20))), some (.inl x), some (.inl (Y 1 x)), some (.inr (.inr ((0, 7), 32))), some (.inl (zw ((i : Int) + 1))), none] [] M := by
        intro M c' hM k5 k6
        rw [zw_suc (by omega)]
        refine ih2 (i + 1) M c' (by omega) (fun j hj => by rw [hM j hj, hE j hj]) k5 ?_
        rw [hcl, ← k6]
        rfl
      have bm := f_min_b hW (a := x) (b := (i : Int)) (by omega) (by omega)
      have un : cl_b (Y 1 x) (cl x 2) Y 0 [] i c = if f_may Y (Y 1 x) (Y 5 1) = true ∧ f_can Y (Y 1 x) (i : Int) = true then cl x 2 (f_bring Y (Y 1 x) (i : Int) (f_min Y x (i : Int))) (f_min Y x (i : Int)) [(i : Int)] c else c := by
        unfold cl_b
        rw [be.2.2.1, Int.zero_add]
        rfl
      have inner : f_can Y (Y 1 x) (i : Int) = true → y_W (f_bring Y (Y 1 x) (i : Int) (f_min Y x (i : Int))) ∧ (f_bring Y (Y 1 x) (i : Int) (f_min Y x (i : Int)) 1 x = -1 ∧ f_bring Y (Y 1 x) (i : Int) (f_min Y x (i : Int)) 0 x = Y 0 x) := by
        intro q
        have W := w_can hW be.1 q (by omega) (by omega)
        rw [be.2.2.1] at W
        refine ⟨W, cl_front h1 (wx.2.2 h1).1 (wx.2.2 h1).2.2 (by omega) (fun hh => ?_)⟩
        rw [can] at q
        simp [hh] at q
      refine sX9_tryBothAway_18 ⟨fun q => by omega, fun _ => ⟨by omega, c_minutes (by omega) (by rw [vN]; exact hW) (by omega) (by omega) (zi ?_)⟩⟩
      rw [vN]
      refine ⟨fun q => next N c (fun _ _ => rfl) hAN ?_, fun q => ⟨fun q2 => next N c (fun _ _ => rfl) hAN ?_, fun q2 => c_canStandAt (by omega) (by omega) rN (by rw [vN]; exact hW) (by rw [vN]; exact hR) (by omega) (by omega) (fun M hM q3 => zb1 ?_) (fun M hM q3 => zb0 ?_)⟩⟩
      · rw [un, if_neg]
        intro hh
        rw [can] at hh
        simp [q] at hh
      · rw [un]
        split
        · rename_i hq
          have I := inner hq.2
          rw [cl_one 0 I.1 (by omega) I.2.1 (by rw [I.2.2]; exact (wx.2.2 h1).2.1)]
          refine z_lp_id _ _ _ (fun j _ hj => ?_)
          unfold cl_l cl_b
          split
          · refine b_off_le ?_
            have i13 : f_bring Y (Y 1 x) (i : Int) (f_min Y x (i : Int)) 13 0 = Y 13 0 := by rw [f_bring_13]
            have bz := f_min_b I.1 (a := f_point (f_bring Y (Y 1 x) (i : Int) (f_min Y x (i : Int))) (f_bring Y (Y 1 x) (i : Int) (f_min Y x (i : Int)) 0 x)) (b := (j : Int)) (f_point_b I.1 (by rw [I.2.2]; omega)) (by rw [i13] at hj ⊢; omega)
            cases c with
            | none =>
              have : N 26 5 = 1000000000 := hAN
              omega
            | some r =>
              have h1 := hAN.1
              show r.1 ≤ _
              omega
          · rfl
        · rfl
      · rw [vN] at q3
        have q4 : f_can Y (Y 1 x) (i : Int) = true := by rw [can, q3]; simp [q]
        have I := inner q4
        have rM : zrl M := zrl_same rN (hM 12 (by omega))
        have vM' : vC M 20 = Y := by rw [hM.v rN (by omega), vN]
        refine c_takeFrom (by omega) (by omega) (by omega) (by omega) rM (fun N2 hN2 hv2 => zn ?_)
        rw [vM'] at hv2
        have r2 : zrl N2 := zrl_same rM (hN2 12 (by omega))
        refine c_shift (k := 1) (by omega) (by omega) r2 (by rw [hv2]; exact hW) (by omega) (by rw [hN2 1 (by omega), hM 1 (by omega)]; omega) (Or.inl rfl) (fun N3 hN3 hv3 => zi ⟨by omega, ?_⟩)
        rw [hv2, be.2.2.1, Int.one_mul] at hv3
        have v21 : N3 (20 + 1) x = f_bring Y (Y 1 x) (i : Int) (f_min Y x (i : Int)) 0 x := by
          rw [I.2.2, hN3 21 (by omega), hN2 21 (by omega), hM 21 (by omega), hE 21 (by omega)]
          exact s1
        rw [v21]
        refine c_lastAway (x := x) (b := true) (P := [(i : Int)]) (a := c) (by omega) (by omega) (by omega) (zrl_same r2 (hN3 12 (by omega))) hv3 I.1 (y_R_bring hR) (by rw [f_bring_13]; exact hx) (by rw [I.2.2]; exact (wx.2.2 h1).2.1) I.2.1 (by omega) rfl (cA_same hAN (by rw [hN3 26 (by omega), hN2 26 (by omega), hM 26 (by omega)])) (fun Q hQ hAQ => zn ?_)
        refine next Q _ (fun j hj => by rw [hQ j (by omega), hN3 j (by omega), hN2 j (by omega), hM j (by omega)]) hAQ ?_
        rw [un, if_pos ⟨hm, q4⟩, cl_one 0 I.1 (by omega) I.2.1 (by rw [I.2.2]; exact (wx.2.2 h1).2.1)]
      · rw [vN] at q3
        refine next M c (fun j hj => hM j (by omega)) (cA_same hAN (hM 26 (by omega))) ?_
        rw [un, if_neg]
        intro hh
        rw [can, q3] at hh
        simp at hh
  exact lp _ 0 μ a (by omega) (fun _ _ => rfl) hA cc
theorem C_clear (hd : 20 ≤ d) (hC : cS μ S) (hI : iS nn S) (h : ∀ μ', zEc μ' μ → cS μ' (o_clear S x).2 → K (some (.inl (o_clear S x).1)) μ') : zCall g d 129 [.inr (.inr ((0, 11), 0)), .inl x] μ K := by
  have w := hI.env
  have nw := hI.now
  have ev := hC.env
  have hv := hC.1.1
  unfold o_clear at h
  refine sX11_clear ⟨by omega, c_hasStall (fun q => zb1 ?_) (fun q => zb0 ?_)⟩
  · rw [if_pos (by omega)] at h
    have wx := (hI.W.2.2.1 x (by omega)).2
    have st := hC.st (e := x) (by omega)
    have fin : ∀ (M : zM) (b : Bool), (∀ j, ¬ (j = 16 ∨ j = 17 ∨ j = 26 ∨ (32 ≤ j ∧ j ≤ 36)) → M j = μ j) → cA M b (cl x 3 S.1 0 [] none) → (b = true ↔ ¬ μ 22 x = -1) → zT g (d - 1) mX9_emptied (zIi fun r3 μ2 => K (some (.inl r3)) μ2) 80 [some (.inr (.inr ((0, 9), 26))), none, none, none, some (.inl (μ 22 x))] [] M := by
      intro M b hM hA hb
      have hCM : cS M S := hC.scr (fun j hj => hM j (by unfold z_scr at hj; omega))
      generalize cl x 3 S.1 0 [] none = a at *
      cases a with
      | none =>
        have hA : M 26 5 = 1000000000 := hA
        exact sX9_emptied_80 ⟨fun q => absurd hA q, fun _ => h M (fun j hj => hM j (by omega)) hCM⟩
      | some r =>
        obtain ⟨a1, a2, a3⟩ := hA
        refine sX9_emptied_80 ⟨fun _ => ⟨by omega, c_emptyR (fun N hN hr => zn ⟨fun q2 => c_tellR hr (by simp) (fun N2 hN2 hr2 => zn ?_), fun q2 => c_tellR hr (by simp) (fun N2 hN2 hr2 => zn (c_tellR hr2 (by simp) (fun N3 hN3 hr3 => zn ?_)))⟩)⟩, fun q2 => by omega⟩
        · have b0 : b = false := by
            cases b with
            | false => rfl
            | true => exact absurd q2 (hb.1 rfl)
          subst b0
          rw [hN 26 (by omega)] at hr2
          have a3 : r.2 = [M 26 7] := a3
          show K (some (.inl (N2 26 5))) N2
          rw [hN2 26 (by omega), hN 26 (by omega), a1]
          refine h N2 (fun j hj => by rw [hN2 j (by omega), hN j (by omega), hM j (by omega)]) (hCM.row (fun j _ hj => by rw [hN2 j hj, hN j hj]) ?_)
          rw [a3]
          exact hr2
        · have b0 : b = true := hb.2 q2
          subst b0
          rw [hN2 26 (by omega), hN 26 (by omega)] at hr3
          have a3 : r.2 = [M 26 6, M 26 7] := a3
          show K (some (.inl (N3 26 5))) N3
          rw [hN3 26 (by omega), hN2 26 (by omega), hN 26 (by omega), a1]
          refine h N3 (fun j hj => by rw [hN3 j (by omega), hN2 j (by omega), hN j (by omega), hM j (by omega)]) (hCM.row (fun j _ hj => by rw [hN3 j hj, hN2 j hj, hN j hj]) ?_)
          rw [a3]
          exact hr3
    have o26 : ∀ j, ¬ j = 26 → zU (zU μ 26 5 1000000000) 26 6 (-1) j = μ j := fun j hj => by rw [zU_off j (by omega), zU_off j (by omega)]
    have A0 : zU (zU μ 26 5 1000000000) 26 6 (-1) 26 5 = 1000000000 := by rw [zU_ne (by omega), zU_eq]
    refine sX9_emptied (s1 := 20) ⟨by omega, fun q0 => ⟨fun q1 => ⟨by omega, ?_⟩, fun q1 => ⟨by omega, ?_⟩⟩, fun q0 => ⟨by omega, c_emptyR (fun M hM hr => zn ?_)⟩⟩
    · have q0 : ¬ μ 21 x = -1 := q0
      have q1 : ¬ μ 22 x = -1 := q1
      show zCall g (d - 1 - 1) 96 [_, _, .inl (μ 22 x), .inl (zU (zU μ 26 5 1000000000) 26 6 (-1) 20 1)] _ (zBz (fun μ1 => zCall g (d - 1 - 1) 85 _ μ1 (zNn fun μ2 => zT g (d - 1) mX9_emptied (zIi fun r3 μ2 => K (some (.inl r3)) μ2) 80 [_, _, _, _, some (.inl (μ 22 x))] [] μ2)) (fun μ1 => zT g (d - 1) mX9_emptied (zIi fun r3 μ2 => K (some (.inl r3)) μ2) 80 [_, _, _, _, some (.inl (μ 22 x))] [] μ1))
      have ee : cl_e S.1 x = S.1 1 x := by unfold cl_e; rw [if_neg (by omega)]
      generalize zU (zU μ 26 5 1000000000) 26 6 (-1) = N at *
      have rN : zrl N := zrl_same hC.1.2.1 (o26 12 (by omega))
      have vN : vC N 20 = S.1 := by rw [← hv]; exact vC_same hC.1.2.1 (fun j _ _ => o26 j (by omega)) (fun j _ _ => o26 j (by omega))
      rw [o26 20 (by omega), ev.2.2.2.2.2]
      refine c_mayGo (by omega) (by rw [vN]; exact hI.W) (by omega) (by omega) (fun q2 => zb1 ?_) (fun q2 => zb0 ?_)
      · rw [vN, st.2] at q2
        refine c_bothAway (a := none) (by omega) rN vN hI.W hI.R (by omega) (by omega) (by omega) q2 A0 (fun M hM hA => zn (fin M true (fun j hj => by rw [hM j hj, o26 j (by omega)]) hA (by simp [q1])))
      · rw [vN, st.2] at q2
        refine fin N true (fun j hj => o26 j (by omega)) ?_ (by simp [q1])
        rw [show cl x 3 S.1 0 [] none = z_lp (cl_b (cl_e S.1 x) (cl x 2) S.1 0 []) (S.1 13 0 + 1).toNat 0 none from if_neg (by omega), z_lp_id]
        · exact A0
        · intro j _ _
          unfold cl_b
          rw [ee]
          exact if_neg (fun hh => by rw [q2] at hh; cases hh.1)
    · have q0 : ¬ μ 21 x = -1 := q0
      have q1 : μ 22 x = -1 := q1
      show zCall g (d - 1 - 1) 86 [_, _, .inl (μ 21 x), .inl 0, .inl (-1)] _ (zNn fun μ3 => zT g (d - 1) mX9_emptied (zIi fun r3 μ2 => K (some (.inl r3)) μ2) 80 [_, _, _, _, some (.inl (μ 22 x))] [] μ3)
      generalize zU (zU μ 26 5 1000000000) 26 6 (-1) = N at *
      have rN : zrl N := zrl_same hC.1.2.1 (o26 12 (by omega))
      have vN : vC N 20 = S.1 := by rw [← hv]; exact vC_same hC.1.2.1 (fun j _ _ => o26 j (by omega)) (fun j _ _ => o26 j (by omega))
      rw [st.1]
      refine c_lastAway (x := x) (b := false) (P := []) (a := none) (by omega) (by omega) (by omega) rN vN hI.W hI.R (by omega) (by omega) (by omega) (by omega) rfl A0 (fun M hM hA => zn (fin M false (fun j hj => by rw [hM j (by omega), o26 j (by omega)]) ?_ (by simp [q1])))
      rw [cl_one 1 hI.W (by omega) (by omega) (by omega)]
      exact hA
    · have q0 : μ 21 x = -1 := q0
      have q1 : S.1 1 x = -1 := by
        rcases Classical.em (S.1 1 x = -1) with q1 | q1
        · exact q1
        · exact absurd (by omega) (wx.2.2 q1).2.1
      have ee : cl_e S.1 x = -1 := by unfold cl_e; rw [if_pos q1]; omega
      rw [show cl x 3 S.1 0 [] none = some (0, []) from if_pos ee] at h
      exact h M (fun j hj => hM j (by omega)) (hC.row (fun j _ hj => hM j hj) hr)
  · rw [if_neg (by omega)] at h
    exact h μ (zEc.refl μ) hC
end
