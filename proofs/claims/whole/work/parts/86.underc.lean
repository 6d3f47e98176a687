-- needs 85
/-! under: the class's call -/
def lf (Y : zM) (e : Nat) (p : Int) : Nat := f_bits (fun i => if i = e then !f_hood Y p (decide (Y 0 p = -1)) else f_smk Y i) 12
section
variable {g : zG} {d : Nat} {K : Option zV → zM → Prop} {μ μ' Y : zM} {s : Nat} {S : zS} {nn x t p u : Int} {e : Nat}
theorem lf_lt : lf Y e p < 4096 := f_bits_lt _ 12
theorem lf_sm (hW : y_W Y) (he : (e : Int) < Y 13 3) (hc : f_can Y (e : Int) p = true) (hp : 0 ≤ p ∧ p < Y 13 0) (hl : ¬ Y 3 (e : Int) = -1) : sm (f_bring Y (e : Int) p t) = lf Y e p := f_bits_ext (fun i _ => smk_bring hW he hc hp hl i)
theorem lf_z (he : e < 12) (hu : u = if f_hood Y p (decide (Y 0 p = -1)) = true then 0 else zshl 1 (e : Int)) : zor (zand (sm Y : Int) (zxor (zshl 1 (e : Int)) (-1))) u = (lf Y e p : Int) := by
  have l1 : sm Y < 4096 := sm_lt
  have l2 : lf Y e p < 4096 := lf_lt
  refine zb_ext (zI32_or _ _) (zI32_nat (by omega)) (fun i hi => ?_)
  have lt : (lf Y e p).testBit i = (decide (i < 12) && (if i = e then !f_hood Y p (decide (Y 0 p = -1)) else f_smk Y i)) := f_bits_test _ 12 i
  rw [zbit_or, zbit_and, zbit_not _ _ hi, zbit_nat _ _ hi, zbit_nat _ _ hi, zbit_shl (by omega) i hi, sm_t, lt, hu]
  by_cases q : f_hood Y p (decide (Y 0 p = -1)) = true
  · rw [if_pos q, zbit_0, q]
    by_cases q2 : i = e
    · subst q2; simp
    · have : ¬ e = i := by omega
      simp [q2, this]
  · rw [if_neg q, zbit_shl (by omega) i hi]
    have qf : f_hood Y p (decide (Y 0 p = -1)) = false := by simpa using q
    rw [qf]
    by_cases q2 : i = e
    · subst q2; simp [he]
    · have : ¬ e = i := by omega
      simp [q2, this]
theorem fr_c_diff {A B e : Nat} : ∀ n : Nat, (∀ i, i < n → ¬ i = e → A.testBit i = B.testBit i) → fr_c A n ≤ fr_c B n + (if e < n then 1 else 0)
  | 0, _ => by simp [fr_c]
  | n + 1, h => by
    have ih := fr_c_diff (A := A) (B := B) (e := e) n (fun i hi => h i (by omega))
    simp only [fr_c]
    by_cases q : n = e
    · rw [if_neg (show ¬ e < n by omega)] at ih
      rw [if_pos (show e < n + 1 by omega)]
      split <;> split <;> omega
    · rw [h n (by omega) q]
      by_cases q2 : e < n
      · rw [if_pos q2] at ih
        rw [if_pos (show e < n + 1 by omega)]
        omega
      · rw [if_neg q2] at ih
        rw [if_neg (show ¬ e < n + 1 by omega)]
        omega
/-- none of three or more goes by two moves -/
theorem un2_three {P : List Int} {a : zBst} (hW : y_W Y) (hn : Y 5 1 ≤ 399000) (h : 3 ≤ fr_c (sm Y) 12) : un 2 Y t P a = a := by
  have w := hW.1
  show z_lp (un_e (un 1) Y t P) (Y 13 3).toNat 0 a = a
  refine z_lp_id _ _ _ (fun e _ he => z_lp_id _ _ _ (fun p _ hp => ?_))
  unfold un_p
  split
  · rename_i q
    refine un1_two (w_can hW (by omega) q.2 (by omega) hn) ?_
    have := fr_c_diff (A := sm Y) (B := sm (f_bring Y (e : Int) (p : Int) (f_min Y (f_point Y (e : Int)) (p : Int)))) (e := e) 12 (fun i hi hne => by
      rw [sm_t, sm_t, smk_bring hW (by omega) q.2 (by omega) (may_lit q.1), if_neg hne])
    split at this <;> omega
  · rfl
theorem c_twoUnder {a : zBst} (hd : 10 ≤ d) (hr : zrl μ) (hv : vC μ 20 = Y) (hW : y_W Y) (hR : y_R Y) (hn : Y 5 1 ≤ 390000) (h1 : un 1 Y 0 [] none = none) (hA : cAu μ true a)
    (h : ∀ μ', (∀ j, ¬ (j = 16 ∨ j = 17 ∨ j = 26 ∨ (32 ≤ j ∧ j ≤ 36)) → μ' j = μ j) → cAu μ' true (un 2 Y 0 [] a) → K none μ') : zCall g d 88 [.inr (.inr ((0, 9), 26)), .inr (.inr ((0, 7), 20)), .inl (sm Y : Int)] μ K := by
  have w := hW.1
  have wn := hW.2.1
  refine sX9_tryTwoUnder ?_
  have lp : ∀ (k e : Nat) (N : zM) (c : zBst), e + k = (Y 13 3).toNat → (∀ j, ¬ (j = 16 ∨ j = 17 ∨ j = 26 ∨ (32 ≤ j ∧ j ≤ 36)) → N j = μ j) → cAu N true c → un 2 Y 0 [] a = z_lp (un_e (un 1) Y 0 []) k e c → zT g d mX9_tryTwoUnder K 10 [some (.inr (.inr ((0, 9), 26))), some (.inr (.inr ((0, 7), 20))), some (.inl (sm Y : Int)), some (.inr (.inr ((0, 7), 32))), some (.inl (e : Int)), none, none, none, none, none] [] N := by
    intro k
    induction k with
    | zero =>
      intro e N c hi hE hAN hcl
      have n5 : N 5 0 = Y 13 3 := by rw [hE 5 (by omega), ← hv]; rfl
      refine sX9_tryTwoUnder_10 ⟨fun _ => h N hE ?_, fun q => by omega⟩
      rw [hcl]
      exact hAN
    | succ k ih =>
      intro e N0 c0 hi hE0 hAN0 hcl0
      have n5 : N0 5 0 = Y 13 3 := by rw [hE0 5 (by omega), ← hv]; rfl
      have vN0 : vC N0 20 = Y := by rw [← hv]; exact vC_same hr (fun j _ _ => hE0 j (by omega)) (fun j _ _ => hE0 j (by omega))
      have we := (hW.2.2.2 (e : Int) (by omega)).2
      have n3 : N0 (20 + 3) (e : Int) = Y 2 (e : Int) := by rw [← vN0]; exact (y_in (by omega)).symm
      have n1 : N0 20 1 = Y 5 1 := by rw [← vN0]; rfl
      have nexte : ∀ M c', (∀ j, ¬ (j = 16 ∨ j = 17 ∨ j = 26 ∨ (32 ≤ j ∧ j ≤ 36)) → M j = μ j) → cAu M true c' → un_e (un 1) Y 0 [] e c0 = c' → zT g d mX9_tryTwoUnder K 10 [some (.inr (.inr ((0, 9), 26))), some (.inr (.inr ((0, 7), 20))), some (.inl (sm Y : Int)), some (.inr (.inr ((0, 7), 32))), some (.inl (zw ((e : Int) + 1))), none, none, none, none, none] [] M := by
        intro M c' hM k5 k6
        rw [zw_suc (by omega)]
        refine ih (e + 1) M c' (by omega) hM k5 ?_
        rw [hcl0, ← k6]
        rfl
      refine sX9_tryTwoUnder_10 ⟨fun q => by omega, fun _ => ⟨by omega, c_inFrontOf (s := 20) (by omega) (by omega) (by omega) (zi ?_)⟩⟩
      rw [vN0, n1]
      refine ⟨fun qa => nexte N0 c0 hE0 hAN0 (z_lp_id _ _ _ (fun p _ hp => ?_)), fun qa => c_mayGo (by omega) (by rw [vN0]; exact hW) (by omega) (by omega) (fun qm => zb1 (c_pointOf (by omega) (by omega) (zi ?_))) (fun qm => zb0 (nexte N0 c0 hE0 hAN0 (z_lp_id _ _ _ (fun p _ hp => ?_))))⟩
      · refine if_neg (fun hh => ?_)
        have := hh.2
        unfold f_can at this
        simp at this
        exact qa this.2.1
      · rw [vN0] at qm ⊢
        have pb := f_point_b hW (e := (e : Int)) (by omega)
        have can : ∀ p : Int, 0 ≤ p ∧ p < Y 13 0 → f_can Y (e : Int) p = (decide (¬ p = f_point Y (e : Int)) && f_takes Y p (e : Int)) := by
          intro p hp
          unfold f_can f_stand
          rw [qa, decide_eq_false (show ¬ p = Y 13 0 by omega)]
          simp
        have lp2 : ∀ (k2 i : Nat) (N : zM) (c : zBst), i + k2 = (Y 13 0).toNat → (∀ j, ¬ (j = 16 ∨ j = 17 ∨ j = 26 ∨ (32 ≤ j ∧ j ≤ 36)) → N j = μ j) → cAu N true c → un_e (un 1) Y 0 [] e c0 = z_lp (un_p (un 1) Y 0 [] e) k2 i c → zT g d mX9_tryTwoUnder K 70 [some (.inr (.inr ((0, 9), 26))), some (.inr (.inr ((0, 7), 20))), some (.inl (sm Y : Int)), some (.inr (.inr ((0, 7), 32))), some (.inl (e : Int)), some (.inl (f_point Y (e : Int))), some (.inl (i : Int)), none, none, none] [] N := by
          intro k2
          induction k2 with
          | zero =>
            intro i N c hi2 hE hAN hcl
            have n0 : N 1 0 = Y 13 0 := by rw [hE 1 (by omega), ← hv]; rfl
            exact sX9_tryTwoUnder_70 ⟨fun _ => nexte N c hE hAN hcl, fun q => by omega⟩
          | succ k2 ih2 =>
            intro i N c hi2 hE hAN hcl
            have n0 : N 1 0 = Y 13 0 := by rw [hE 1 (by omega), ← hv]; rfl
            have rN : zrl N := zrl_same hr (hE 12 (by omega))
            have vN : vC N 20 = Y := by rw [← hv]; exact vC_same hr (fun j _ _ => hE j (by omega)) (fun j _ _ => hE j (by omega))
            have bm := f_min_b hW (a := f_point Y (e : Int)) (b := (i : Int)) pb (by omega)
            have next : ∀ M c', (∀ j, ¬ (j = 16 ∨ j = 17 ∨ j = 26 ∨ (32 ≤ j ∧ j ≤ 36)) → M j = N j) → cAu M true c' → un_p (un 1) Y 0 [] e i c = c' → zT g d mX9_tryTwoUnder K 70 [some (.inr (.inr ((0, 9), 26))), some (.inr (.inr ((0, 7), 20))), some (.inl (sm Y : Int)), some (.inr (.inr ((0, 7), 32))), some (.inl (e : Int)), some (.inl (f_point Y (e : Int))), some (.inl (zw ((i : Int) + 1))), none, none, none] [] M := by
              intro M c' hM k5 k6
              rw [zw_suc (by omega)]
              refine ih2 (i + 1) M c' (by omega) (fun j hj => by rw [hM j hj, hE j hj]) k5 ?_
              rw [hcl, ← k6]
              rfl
            have un' : un_p (un 1) Y 0 [] e i c = if f_may Y (e : Int) (Y 5 1) = true ∧ f_can Y (e : Int) (i : Int) = true then un 1 (f_bring Y (e : Int) (i : Int) (f_min Y (f_point Y (e : Int)) (i : Int))) (f_min Y (f_point Y (e : Int)) (i : Int)) [(e : Int), (i : Int)] c else c := by
              unfold un_p
              rw [Int.zero_add]
              rfl
            have join : ∀ u : Int, u = (if f_hood Y (i : Int) (decide (Y 0 (i : Int) = -1)) = true then 0 else zshl 1 (e : Int)) → zT g d mX9_tryTwoUnder K 106 [some (.inr (.inr ((0, 9), 26))), some (.inr (.inr ((0, 7), 20))), some (.inl (sm Y : Int)), some (.inr (.inr ((0, 7), 32))), some (.inl (e : Int)), some (.inl (f_point Y (e : Int))), some (.inl (i : Int)), none, none, none] [.inl u] N := by
              intro u hu
              have lz := lf_z (e := e) (by omega) hu
              have ll : lf Y e (i : Int) < 4096 := lf_lt
              refine sX9_tryTwoUnder_106 ⟨fun q => next N c (fun _ _ => rfl) hAN ?_, fun q => ⟨by omega, ?_⟩⟩
              · rw [un', if_neg]
                intro hh
                rw [can _ (by omega)] at hh
                simp [q] at hh
              · rw [lz]
                refine j_bcn ll (zi ⟨fun q1 => c_minutes (by omega) (by rw [vN]; exact hW) (by omega) (by omega) (zi ?_), fun q1 => next N c (fun _ _ => rfl) hAN ?_⟩)
                · rw [vN]
                  refine ⟨fun q2 => next N c (fun _ _ => rfl) hAN ?_, fun q2 => c_takesIt (by omega) (by omega) rN (by rw [vN]; exact hW) (by rw [vN]; exact hR) (by omega) (by omega) (fun M hM q3 => zb1 ?_) (fun M hM q3 => zb0 ?_)⟩
                  · rw [un']
                    split
                    · rename_i hq
                      refine un_prune 1 _ _ _ c (w_can hW (by omega) hq.2 (by omega) (by omega)) (by rw [f_bring_51]; omega) ?_
                      cases c with
                      | none =>
                        have : N 26 5 = 1000000000 := hAN
                        omega
                      | some r =>
                        have h1 := hAN.1
                        show r.1 ≤ _
                        omega
                    · rfl
                  · rw [vN] at q3
                    have q4 : f_can Y (e : Int) (i : Int) = true := by rw [can _ (by omega), q3]; simp [q]
                    have WZ := w_can hW (e := (e : Int)) (by omega) q4 (by omega) (by omega)
                    have smz := lf_sm (t := f_min Y (f_point Y (e : Int)) (i : Int)) hW (e := e) (by omega) q4 (by omega) (may_lit qm)
                    have q1' : fr_c (lf Y e (i : Int)) 12 = 1 := by omega
                    obtain ⟨e0, he0, hb0⟩ := fr_c_1 12 q1'
                    rw [← smz] at hb0 ⊢
                    have rM : zrl M := zrl_same rN (hM 12 (by omega))
                    have vM' : vC M 20 = Y := by rw [hM.v rN (by omega), vN]
                    refine c_takeFrom (by omega) (by omega) (by omega) (by omega) rM (fun N2 hN2 hv2 => zn ?_)
                    rw [vM'] at hv2
                    have r2 : zrl N2 := zrl_same rM (hN2 12 (by omega))
                    refine c_shift (k := 1) (by omega) (by omega) r2 (by rw [hv2]; exact hW) (by omega) (by rw [hN2 1 (by omega), hM 1 (by omega)]; omega) (Or.inl rfl) (fun N3 hN3 hv3 => zi ?_)
                    rw [hv2, Int.one_mul] at hv3
                    refine c_underHood (e := e0) (b := true) (P := [(e : Int), (i : Int)]) (a := c) (by omega) (by omega) (by omega) (zrl_same r2 (hN3 12 (by omega))) hv3 WZ (y_R_bring hR) he0 (fun j hj => ?_) (by omega) rfl (cAu_same hAN (by rw [hN3 26 (by omega), hN2 26 (by omega), hM 26 (by omega)])) (fun Q hQ hAQ => zn ?_)
                    · have := hb0 j hj
                      rw [sm_t, decide_eq_true hj, Bool.true_and] at this
                      exact this
                    · refine next Q _ (fun j hj => by rw [hQ j (by omega), hN3 j (by omega), hN2 j (by omega), hM j (by omega)]) hAQ ?_
                      rw [un', if_pos ⟨qm, q4⟩]
                  · rw [vN] at q3
                    refine next M c (fun j hj => hM j (by omega)) (cAu_same hAN (hM 26 (by omega))) ?_
                    rw [un', if_neg]
                    intro hh
                    rw [can _ (by omega), q3] at hh
                    simp at hh
                · rw [un']
                  split
                  · rename_i hq
                    have smz := lf_sm (t := f_min Y (f_point Y (e : Int)) (i : Int)) hW (e := e) (by omega) hq.2 (by omega) (may_lit hq.1)
                    rcases Nat.lt_or_ge (fr_c (lf Y e (i : Int)) 12) 2 with q2 | q2
                    · have z0 : lf Y e (i : Int) = 0 := or_0 ll (by omega)
                      refine absurd ?_ (un1_none hW h1 (e := e) (by omega) (p := i) (by omega) hq)
                      show ((sm (f_bring Y (e : Int) (i : Int) (f_min Y (f_point Y (e : Int)) (i : Int))) : Nat) : Int) = 0
                      rw [smz, z0]
                      rfl
                    · exact un1_two (w_can hW (e := (e : Int)) (by omega) hq.2 (by omega) (by omega)) (by rw [smz]; exact q2)
                  · rfl
            refine sX9_tryTwoUnder_70 ⟨fun q => by omega, fun _ => ⟨by omega, c_isNextHooded (by omega) (by rw [vN]; exact hW) (by omega) (fun qh => zb1 (join 0 ?_)) (fun qh => zb0 (join (zshl 1 (e : Int)) ?_))⟩⟩
            · rw [vN] at qh
              rw [if_pos qh]
            · rw [vN] at qh
              rw [if_neg (by rw [qh]; simp)]
        exact lp2 _ 0 N0 c0 (by omega) hE0 hAN0 rfl
      · refine if_neg (fun hh => ?_)
        rw [vN0] at qm
        rw [qm] at hh
        cases hh.1
  exact lp _ 0 μ a (by omega) (fun _ _ => rfl) hA rfl
theorem C_under (hd : 20 ≤ d) (hC : cS μ S) (hI : iS nn S) (h : ∀ μ', zEc μ' μ → cS μ' (o_under S).2 → K (some (.inl (o_under S).1)) μ') : zCall g d 130 [.inr (.inr ((0, 11), 0))] μ K := by
  have w := hI.env
  have nw := hI.now
  have ev := hC.env
  have hv := hC.1.1
  have ll : sm S.1 < 4096 := sm_lt
  have s0 : f_smoke S.1 = 0 ↔ sm S.1 = 0 := by
    show ((sm S.1 : Nat) : Int) = 0 ↔ _
    omega
  unfold o_under at h
  refine sX11_under ⟨by omega, sX9_underHoods (s1 := 20) ⟨by omega, c_smoking (by omega) (hC.W hI) (zi ?_)⟩⟩
  rw [hv]
  show zCall g (d - 1 - 1) 283 [.inl ((sm S.1 : Nat) : Int)] μ _
  refine j_bcn ll (zi ⟨fun q0 => ?_, fun q0 => c_emptyR (fun M hM hr => zn ?_)⟩)
  · have n0 : ¬ f_smoke S.1 = 0 := fun hh => by
      rw [s0.1 hh] at q0
      exact q0 (by decide)
    have u0 : un 0 S.1 0 [] none = none := if_neg n0
    rw [u0] at h
    simp only [] at h
    have o26 : ∀ j, ¬ j = 26 → zU μ 26 5 1000000000 j = μ j := fun j hj => zU_off j hj
    have A0 : zU μ 26 5 1000000000 26 5 = 1000000000 := zU_eq
    have two : ∀ N : zM, (∀ j, ¬ (j = 16 ∨ j = 17 ∨ j = 26 ∨ (32 ≤ j ∧ j ≤ 36)) → N j = μ j) → N 26 5 = 1000000000 → un 1 S.1 0 [] none = none → zT g (d - 1) mX9_underHoods (zIi fun r2 μ1 => K (some (.inl r2)) μ1) 81 [some (.inr (.inr ((0, 9), 26))), some (.inr (.inr ((0, 7), 20))), some (.inl ((sm S.1 : Nat) : Int)), none] [] N := by
      intro N hN n26 u1
      rw [u1] at h
      simp only [] at h
      have rN : zrl N := zrl_same hC.1.2.1 (hN 12 (by omega))
      have vN : vC N 20 = S.1 := by rw [← hv]; exact vC_same hC.1.2.1 (fun j _ _ => hN j (by omega)) (fun j _ _ => hN j (by omega))
      refine sX9_underHoods_81 ⟨by omega, c_twoUnder (a := none) (by omega) rN vN hI.W hI.R (by omega) u1 n26 (fun M hM hA => zn ?_)⟩
      have eM : ∀ j, ¬ (j = 16 ∨ j = 17 ∨ j = 26 ∨ (32 ≤ j ∧ j ≤ 36)) → M j = μ j := fun j hj => by rw [hM j hj, hN j hj]
      have hCM : cS M S := hC.scr (fun j hj => eM j (by unfold z_scr at hj; omega))
      generalize un 2 S.1 0 [] none = a at *
      cases a with
      | none =>
        have hA : M 26 5 = 1000000000 := hA
        exact ⟨fun q => absurd hA q, fun _ => h M (fun j hj => eM j (by omega)) hCM⟩
      | some r =>
        obtain ⟨a1, a2, a3⟩ := hA
        have a3 : r.2 = [M 26 8, M 26 6, M 26 9, M 26 7] := a3
        refine ⟨fun _ => c_tellTwoR (by omega) (fun V hV hr => zn (c_tellR hr (by simp) (fun V2 hV2 hr2 => zn (c_tellR hr2 (by simp) (fun V3 hV3 hr3 => zn ?_))))), fun q => by omega⟩
        rw [hV2 26 (by omega), hV 26 (by omega)] at hr3
        refine h V3 (fun j hj => by rw [hV3 j (by omega), hV2 j (by omega), hV j (by omega), eM j (by omega)]) (hCM.row (fun j _ hj => by rw [hV3 j hj, hV2 j hj, hV j hj]) ?_)
        rw [a3]
        exact hr3
    refine ⟨fun q2 => ⟨fun q1 => two _ (fun j hj => o26 j (by omega)) A0 (un1_two hI.W (by omega)), fun q1 => ?_⟩, fun q2 => ?_⟩
    · obtain ⟨e0, he0, hb0⟩ := fr_c_1 (D := sm S.1) 12 (by omega)
      generalize zU μ 26 5 1000000000 = N at *
      have rN : zrl N := zrl_same hC.1.2.1 (o26 12 (by omega))
      have vN : vC N 20 = S.1 := by rw [← hv]; exact vC_same hC.1.2.1 (fun j _ _ => o26 j (by omega)) (fun j _ _ => o26 j (by omega))
      refine c_underHood (e := e0) (b := false) (P := []) (a := none) (by omega) (by omega) (by omega) rN vN hI.W hI.R he0 (fun j hj => ?_) (by omega) rfl A0 (fun M hM hA => zn ?_)
      · have := hb0 j hj
        rw [sm_t, decide_eq_true hj, Bool.true_and] at this
        exact this
      · have eM : ∀ j, ¬ (j = 16 ∨ j = 17 ∨ j = 26) → M j = μ j := fun j hj => by rw [hM j hj, o26 j (by omega)]
        have hCM : cS M S := hC.scr (fun j hj => eM j (by unfold z_scr at hj; omega))
        cases ha : un 1 S.1 0 [] none with
        | none =>
          rw [ha] at hA
          have hA : M 26 5 = 1000000000 := hA
          exact ⟨fun _ => two M (fun j hj => eM j (by omega)) hA ha, fun q => by omega⟩
        | some r =>
          rw [ha] at hA h
          obtain ⟨a1, a2, a3⟩ := hA
          have a3 : r.2 = [M 26 9, M 26 7] := a3
          refine ⟨fun q => by omega, fun _ => c_tellTwoR (by omega) (fun V hV hr => zn ?_)⟩
          refine h V (fun j hj => by rw [hV j (by omega), eM j (by omega)]) (hCM.row (fun j _ hj => hV j hj) ?_)
          rw [a3]
          exact hr
    · rw [un1_two hI.W (by omega)] at h
      simp only [] at h
      rw [un2_three hI.W (by omega) (by omega)] at h
      exact h μ (zEc.refl μ) hC
  · have z0 : sm S.1 = 0 := or_0 ll (by omega)
    rw [show un 0 S.1 0 [] none = some (0, []) from if_pos (s0.2 z0)] at h
    exact h M (fun j hj => hM j (by omega)) (hC.row (fun j _ hj => hM j hj) hr)
end
