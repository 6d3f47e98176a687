-- needs 84
/-! under: the reference's call; the class's search for the last smoker -/
def o_under (S : zS) : Int × zS := match un 0 S.1 0 [] none with
  | some q => (0, sR S q.2)
  | none => match un 1 S.1 0 [] none with
    | some q => (1, sR S q.2)
    | none => match un 2 S.1 0 [] none with
      | some q => (2, sR S q.2)
      | none => (-2, S)
theorem un_len : ∀ (k : Nat) (Y : zM) (t : Int) (P : List Int) (a : zBst), (∀ q, a = some q → q.2.length ≤ 12) → P.length + 2 * k ≤ 12 → ∀ q, un k Y t P a = some q → q.2.length ≤ 12 := by
  intro k
  induction k with
  | zero =>
    intro Y t P a ha hl q hq
    have hq : (if f_smoke Y = 0 then b_off a t P else a) = some q := hq
    split at hq
    · cases a with
      | none =>
        have hq : some (t, P) = some q := hq
        cases hq
        show P.length ≤ 12
        omega
      | some r =>
        by_cases c : t < r.1
        · rw [show b_off (some r) t P = some (t, P) from if_pos c] at hq
          cases hq
          show P.length ≤ 12
          omega
        · rw [show b_off (some r) t P = some r from if_neg c] at hq
          exact ha q hq
    · exact ha q hq
  | succ k ih =>
    intro Y t P a ha hl q hq
    have kp : ∀ (e j : Nat) (a : zBst), (∀ q, a = some q → q.2.length ≤ 12) → ∀ q, un_p (un k) Y t P e j a = some q → q.2.length ≤ 12 := by
      intro e j a ha q hq
      unfold un_p at hq
      split at hq
      · exact ih _ _ _ a ha (by simp; omega) q hq
      · exact ha q hq
    have ke : ∀ (j : Nat) (a : zBst), (∀ q, a = some q → q.2.length ≤ 12) → ∀ q, un_e (un k) Y t P j a = some q → q.2.length ≤ 12 := fun j a ha => z_lp_inv (Q := fun a : zBst => ∀ q : Int × List Int, a = some q → q.2.length ≤ 12) (kp j) _ _ _ ha
    exact z_lp_inv (Q := fun a : zBst => ∀ q : Int × List Int, a = some q → q.2.length ≤ 12) ke _ _ _ ha q hq
theorem un_prune : ∀ (k : Nat) (Y : zM) (t : Int) (P : List Int) (a : zBst), y_W Y → Y 5 1 + 300 * (k : Int) ≤ 399000 → b_le a t → un k Y t P a = a := by
  intro k
  induction k with
  | zero =>
    intro Y t P a hW hn hb
    show (if f_smoke Y = 0 then b_off a t P else a) = a
    split
    · exact b_off_le hb
    · rfl
  | succ k ih =>
    intro Y t P a hW hn hb
    have w := hW.1
    refine z_lp_id _ _ _ (fun e _ he => z_lp_id _ _ _ (fun p _ hp => ?_))
    unfold un_p
    split
    · rename_i q
      have bm := f_min_b hW (a := f_point Y (e : Int)) (b := (p : Int)) (f_point_b hW (by omega)) (by omega)
      exact ih _ _ _ a (w_can hW (by omega) q.2 (by omega) (by omega)) (by rw [f_bring_51]; omega) (b_le_mono hb (by omega))
    · rfl
section
variable {g : zG} {d : Nat} {K : Option zV → zM → Prop} {μ μ' Y : zM} {s : Nat} {S : zS} {nn x t : Int} {e : Nat}
theorem M_under (hd : 330 ≤ d) (hC : mS μ S) (hI : iS nn S) (h : ∀ μ', zEd μ' μ → mS μ' (o_under S).2 → K (some (.inl (o_under S).1)) μ') : zCall g d 226 [.inr (.inr ((0, 12), 119))] μ K := by
  have w := hI.env
  have nw := hI.now
  have hC0 : mS (zU μ 119 33 0) S := hC.thr
  have hE : zEd (zU μ 119 33 0) μ := (zEd.refl μ).u (by omega)
  have step : ∀ (k : Nat) (N : zM), k ≤ 2 → mS N S → zEd N μ → (∀ q, un k S.1 0 [] none = some q → ∀ Q, zEd Q μ → mS Q (sR S q.2) → K (some (.inl (k : Int))) Q) → (un k S.1 0 [] none = none → ∀ M, zEd M μ → mS M S → zT g d mX12_under K 7 [some (.inr (.inr ((0, 12), 119))), some (.inl ((k + 1 : Nat) : Int))] [] M) → zT g d mX12_under K 7 [some (.inr (.inr ((0, 12), 119))), some (.inl (k : Int))] [] N := by
    intro k N hk hCN hEN h1 h2
    refine sX12_under_7 ⟨fun q => by omega, fun _ => ⟨by omega, ?_⟩⟩
    have hC1 : mS (zU N 119 48 (-1)) S := hCN.scr (fun j _ hj => zU_off j hj) (fun i hi => zU_ne (by unfold z_scs at hi; omega))
    have z42 : zU N 119 48 (-1) 119 42 = 0 := by rw [zU_ne (by omega)]; exact hCN.1.2.2
    refine m_underFrom (co := S.1 14) (cn := S.1 15 0) k (d - 1) _ S.1 0 [] none _ (by omega) hC1.1.1 hI.W hC1.1.2.1 (by omega) (zli_nil _) (by simp; omega) zU_eq (by omega) (by omega) (fun M hM hvM m42 _ _ hA => zn ?_)
    have hCM : mS M (sY S S.1) := hC1.yard ⟨hvM, zRu_s hM hC1.1.2.1, by rw [m42, z42]⟩ (fun j hj hs => by unfold z_scm at hs; exact hM.1 j (by omega)) (fun i hi hs => by unfold z_scs at hs; exact hM.2 i (by omega))
    have hCM : mS M S := hCM
    have hEM : zEd M μ := fun j hj => by rw [hM.1 j (by omega), zU_off j (by omega)]; exact hEN j hj
    have hlen := un_len k S.1 0 [] none (fun q hq => by cases hq) (by simp; omega)
    cases ha : un k S.1 0 [] none with
    | none =>
      rw [ha] at hA
      have hA : M 119 48 = -1 := hA
      refine ⟨fun q => absurd hA q, fun _ => ?_⟩
      rw [zw_suc (by omega)]
      exact h2 ha M hEM hCM
    | some q =>
      rw [ha] at hA
      have hA2 := hA
      obtain ⟨a1, a2, a3, a4⟩ := hA2
      refine ⟨fun _ => m_tellBest (t := q.1) (r := q.2) hA (hlen q ha) (by omega) (fun Q hQ hr => zn ?_), fun q2 => by omega⟩
      exact h1 q ha Q (fun j hj => by rw [hQ.1 j (by omega)]; exact hEM j hj) (hCM.row (fun j _ hj => hQ.1 j hj) (fun i _ hi => hQ.2 i hi) hr)
  unfold o_under at h
  refine sX12_under (step 0 _ (by omega) hC0 hE (fun q hq Q hQ hC => ?_) (fun h0 M hM hCM => step 1 M (by omega) hCM hM (fun q hq Q hQ hC => ?_) (fun h1 M hM hCM => step 2 M (by omega) hCM hM (fun q hq Q hQ hC => ?_) (fun h2 M hM hCM => sX12_under_7 ⟨fun _ => ?_, fun q => by omega⟩))))
  · rw [hq] at h
    exact h Q hQ hC
  · rw [h0] at h
    simp only [] at h
    rw [hq] at h
    exact h Q hQ hC
  · rw [h0] at h
    simp only [] at h
    rw [h1] at h
    simp only [] at h
    rw [hq] at h
    exact h Q hQ hC
  · rw [h0] at h
    simp only [] at h
    rw [h1] at h
    simp only [] at h
    rw [h2] at h
    exact h M hM hCM
theorem ntz_z : ∀ e : Nat, e < 12 → zand (zxor ((2 ^ e : Nat) : Int) (-1)) (zw (((2 ^ e : Nat) : Int) - 1)) = ((2 ^ e : Nat) : Int) - 1 := by decide +kernel
def ntz_u (y x : Int) : Int := if y ≤ 16 then (if y ≤ 4 then zw (x + zushr y 1) else zw (zw (x + 2) + zushr (zushr y 2) 1)) else (if zushr y 4 ≤ 4 then zw (zw (x + 4) + zushr (zushr y 4) 1) else zw (zw (zw (x + 4) + 2) + zushr (zushr (zushr y 4) 2) 1))
def ntz_v (y : Int) : Int := if 0 < y then (if y ≤ 256 then ntz_u y 1 else ntz_u (zushr y 8) (zw (1 + 8))) else zand y 32
theorem ntz_r : ∀ e : Nat, e < 12 → ntz_v (((2 ^ e : Nat) : Int) - 1) = (e : Int) ∧ ((2 ^ e : Nat) : Int) - 1 ≤ 65536 := by decide +kernel
theorem j_ntz49 {y x : Int} (h : K (some (.inl (ntz_u y x))) μ) : zT g d mJ6_numberOfTrailingZeros_0f7a4 K 49 [some (.inl y), some (.inl x)] [] μ := by
  unfold ntz_u at h
  refine sJ6_numberOfTrailingZeros_0f7a4_49 ⟨fun q => ⟨fun q2 => ?_, fun q2 => ?_⟩, fun q => ⟨fun q2 => ?_, fun q2 => ?_⟩⟩
  · rw [if_pos q, if_pos q2] at h; exact h
  · rw [if_pos q, if_neg (by omega)] at h; exact h
  · rw [if_neg (by omega), if_pos q2] at h; exact h
  · rw [if_neg (by omega), if_neg (by omega)] at h; exact h
theorem j_ntz (he : e < 12) (h : K (some (.inl (e : Int))) μ) : zCall g d 282 [.inl ((2 ^ e : Nat) : Int)] μ K := by
  have r := ntz_r e he
  rw [← r.1] at h
  refine sJ6_numberOfTrailingZeros_0f7a4 ?_
  rw [ntz_z e he]
  generalize ((2 ^ e : Nat) : Int) - 1 = y at *
  unfold ntz_v at h
  refine ⟨fun q => ⟨fun _ => ⟨fun q2 => j_ntz49 ?_, fun q2 => j_ntz49 ?_⟩, fun q2 => by omega⟩, fun q => ?_⟩
  · rw [if_pos q, if_pos q2] at h; exact h
  · rw [if_pos q, if_neg (by omega)] at h; exact h
  · rw [if_neg (by omega)] at h; exact h
/-- the class's best: 26/5 the minutes, 8 and 6 the first, 9 and 7 the last -/
def cAu (M : zM) (b : Bool) (a : zBst) : Prop := match a with
  | none => M 26 5 = 1000000000
  | some q => M 26 5 = q.1 ∧ q.1 < 1000000 ∧ q.2 = (if b then [M 26 8, M 26 6, M 26 9, M 26 7] else [M 26 9, M 26 7])
theorem cAu_same {M M' : zM} {b : Bool} {a : zBst} (h : cAu M b a) (e : M' 26 = M 26) : cAu M' b a := by
  unfold cAu at *
  rw [e]
  exact h
theorem c_underHood {fm fs : Int} {b : Bool} {P : List Int} {a : zBst} (hd : 6 ≤ d) (hs : 20 ≤ s) (hs2 : ¬ (s ≤ 26 ∧ 26 ≤ s + 4)) (hr : zrl μ) (hv : vC μ s = Y) (hW : y_W Y) (hR : y_R Y) (he : e < 12) (hsm : ∀ i, i < 12 → f_smk Y i = decide (i = e)) (ht : 0 ≤ t ∧ t ≤ 1000) (hP : P = if b then [fm, fs] else []) (hA : cAu μ b a)
    (h : ∀ μ', (∀ j, ¬ (j = 16 ∨ j = 17 ∨ j = 26) → μ' j = μ j) → cAu μ' b (un 1 Y t P a) → K none μ') : zCall g d 89 [.inr (.inr ((0, 9), 26)), .inr (.inr ((0, 7), s)), .inl (sm Y : Int), .inl t, .inl fm, .inl fs] μ K := by
  have w := hW.1
  have we := (hW.2.2.2 (e : Int) (by omega)).2
  have se := hsm e he
  unfold f_smk at se
  simp at se
  have e3 : (e : Int) < Y 13 3 := by
    rcases Int.lt_or_le (e : Int) (Y 13 3) with q | q
    · exact q
    · exact absurd (we.2.2 q).2.1 se.1
  have pe : f_point Y (e : Int) = Y 2 (e : Int) := f_point_eq se.2.1
  have sm2 : sm Y = 2 ^ e := by
    refine Nat.eq_of_testBit_eq (fun i => ?_)
    rw [sm_t, Nat.testBit_two_pow]
    by_cases q : i < 12
    · rw [hsm i q, decide_eq_true q, Bool.true_and]
      exact decide_eq_decide.2 ⟨fun h => h.symm, fun h => h.symm⟩
    · have : ¬ e = i := by omega
      simp [q, this]
  rw [un1_one hW e3 hsm] at h
  have s1 : μ s 1 = Y 5 1 := by rw [← hv]; rfl
  have s3 : μ (s + 3) (e : Int) = Y 2 (e : Int) := by rw [← hv]; exact (y_in (by omega)).symm
  have s5 : μ 5 0 = Y 13 3 := by rw [← hv]; rfl
  have wn := hW.2.1
  have stay : (¬ ∀ p : Nat, ¬ (f_may Y (e : Int) (Y 5 1) = true ∧ f_can Y (e : Int) (p : Int) = true)) ∨ K none μ := by
    rcases Classical.em (∀ p : Nat, ¬ (f_may Y (e : Int) (Y 5 1) = true ∧ f_can Y (e : Int) (p : Int) = true)) with q | q
    · right
      refine h μ (fun _ _ => rfl) ?_
      rw [z_lp_id]
      · exact hA
      · intro j _ _
        unfold uh
        exact if_neg (fun hh => q j hh.1)
    · exact Or.inl q
  have stay : (∀ p : Nat, ¬ (f_may Y (e : Int) (Y 5 1) = true ∧ f_can Y (e : Int) (p : Int) = true)) → K none μ := fun q => by
    rcases stay with h | h
    · exact absurd q h
    · exact h
  rw [sm2]
  refine sX9_tryUnderHood ⟨by omega, j_ntz he (zi ⟨fun q => by omega, fun _ => c_inFrontOf (by omega) (by omega) (by omega) (zi ?_)⟩)⟩
  rw [hv, s1]
  refine ⟨fun q => stay (fun p hh => ?_), fun qa => c_mayGo (by omega) (by rw [hv]; exact hW) (by omega) (by omega) (fun q1 => zb1 ⟨by omega, ?_⟩) (fun q1 => zb0 (stay (fun p hh => ?_)))⟩
  · have := hh.2
    unfold f_can at this
    simp at this
    exact q this.2.1
  · rw [hv] at q1
    rw [s3]
    have can : ∀ p : Int, 0 ≤ p ∧ p < Y 13 0 → f_can Y (e : Int) p = (decide (¬ p = Y 2 (e : Int)) && f_takes Y p (e : Int)) := by
      intro p hp
      unfold f_can f_stand
      rw [pe, qa, decide_eq_false (show ¬ p = Y 13 0 by omega)]
      simp
    have lp : ∀ (k i : Nat) (N : zM) (c : zBst), i + k = (Y 13 0).toNat → (∀ j, ¬ (j = 16 ∨ j = 17 ∨ j = 26) → N j = μ j) → cAu N b c → z_lp (uh Y e t P) (Y 13 0).toNat 0 a = z_lp (uh Y e t P) k i c → zT g d mX9_tryUnderHood K 61 [some (.inr (.inr ((0, 9), 26))), some (.inr (.inr ((0, 7), s))), none, some (.inl t), some (.inl fm), some (.inl fs), some (.inl (e : Int)), some (.inl (Y 2 (e : Int))), some (.inl (i : Int)), none] [] N := by
      intro k
      induction k with
      | zero =>
        intro i N c hi hE hAN hcl
        have n0 : N 1 0 = Y 13 0 := by rw [hE 1 (by omega), ← hv]; rfl
        refine sX9_tryUnderHood_61 ⟨fun _ => h N hE ?_, fun q => by omega⟩
        rw [hcl]
        exact hAN
      | succ k ih2 =>
        intro i N c hi hE hAN hcl
        have n0 : N 1 0 = Y 13 0 := by rw [hE 1 (by omega), ← hv]; rfl
        have rN : zrl N := zrl_same hr (hE 12 (by omega))
        have vN : vC N s = Y := by rw [← hv]; exact vC_same hr (fun j _ _ => hE j (by omega)) (fun j _ _ => hE j (by omega))
        have next : ∀ M c', (∀ j, ¬ (j = 16 ∨ j = 17 ∨ j = 26) → M j = N j) → cAu M b c' → uh Y e t P i c = c' → zT g d mX9_tryUnderHood K 61 [some (.inr (.inr ((0, 9), 26))), some (.inr (.inr ((0, 7), s))), none, some (.inl t), some (.inl fm), some (.inl fs), some (.inl (e : Int)), some (.inl (Y 2 (e : Int))), some (.inl (zw ((i : Int) + 1))), none] [] M := by
          intro M c' hM k5 k6
          rw [zw_suc (by omega)]
          refine ih2 (i + 1) M c' (by omega) (fun j hj => by rw [hM j hj, hE j hj]) k5 ?_
          rw [hcl, ← k6]
          rfl
        have bm := f_min_b hW (a := Y 2 (e : Int)) (b := (i : Int)) (by omega) (by omega)
        have un : uh Y e t P i c = if (f_may Y (e : Int) (Y 5 1) = true ∧ f_can Y (e : Int) (i : Int) = true) ∧ f_hood Y (i : Int) (decide (Y 0 (i : Int) = -1)) = true then b_off c (t + f_min Y (Y 2 (e : Int)) (i : Int)) (P ++ [(e : Int)] ++ [(i : Int)]) else c := by
          unfold uh
          rw [pe]
        refine sX9_tryUnderHood_61 ⟨fun q => by omega, fun _ => ⟨fun q => next N c (fun _ _ => rfl) hAN ?_, fun q => ⟨by omega, c_isNextHooded (by omega) (by rw [vN]; exact hW) (by omega) (fun qh => zb1 (c_minutes (by omega) (by rw [vN]; exact hW) (by omega) (by omega) (zi ?_))) (fun qh => zb0 (next N c (fun _ _ => rfl) hAN ?_))⟩⟩⟩
        · rw [un, if_neg]
          intro hh
          rw [can _ (by omega)] at hh
          simp [q] at hh
        · rw [vN] at qh ⊢
          rw [zwi (x := t + f_min Y (Y 2 (e : Int)) (i : Int)) (by omega) (by omega)]
          refine ⟨fun q2 => next N c (fun _ _ => rfl) hAN ?_, fun q2 => c_takesIt (by omega) hs rN (by rw [vN]; exact hW) (by rw [vN]; exact hR) (by omega) (by omega) (fun M hM q3 => zb1 ?_) (fun M hM q3 => zb0 ?_)⟩
          · rw [un]
            split
            · refine b_off_le ?_
              cases c with
              | none =>
                have : N 26 5 = 1000000000 := hAN
                omega
              | some r =>
                have h1 := hAN.1
                show r.1 ≤ _
                omega
            · rfl
          · rw [vN] at q3
            refine next _ (some (t + f_min Y (Y 2 (e : Int)) (i : Int), P ++ [(e : Int)] ++ [(i : Int)])) (fun j hj => by rw [zU_off j (by omega), zU_off j (by omega), zU_off j (by omega), zU_off j (by omega), zU_off j (by omega)]; exact hM j (by omega)) ?_ ?_
            · refine ⟨by rw [zU_ne (by omega), zU_ne (by omega), zU_ne (by omega), zU_ne (by omega), zU_eq], by show t + f_min Y (Y 2 (e : Int)) (i : Int) < 1000000; omega, ?_⟩
              have g7 : ∀ (A : zM) (v8 v6 v9 v7 : Int), zU (zU (zU (zU A 26 8 v8) 26 6 v6) 26 9 v9) 26 7 v7 26 8 = v8 ∧ zU (zU (zU (zU A 26 8 v8) 26 6 v6) 26 9 v9) 26 7 v7 26 6 = v6 ∧ zU (zU (zU (zU A 26 8 v8) 26 6 v6) 26 9 v9) 26 7 v7 26 9 = v9 ∧ zU (zU (zU (zU A 26 8 v8) 26 6 v6) 26 9 v9) 26 7 v7 26 7 = v7 := fun A v8 v6 v9 v7 => ⟨by rw [zU_ne (by omega), zU_ne (by omega), zU_ne (by omega), zU_eq], by rw [zU_ne (by omega), zU_ne (by omega), zU_eq], by rw [zU_ne (by omega), zU_eq], zU_eq⟩
              rw [(g7 _ _ _ _ _).1, (g7 _ _ _ _ _).2.1, (g7 _ _ _ _ _).2.2.1, (g7 _ _ _ _ _).2.2.2, hP]
              cases b <;> rfl
            · rw [un, if_pos ⟨⟨q1, by rw [can _ (by omega), q3]; simp [q]⟩, qh⟩]
              have e26 : M 26 5 = N 26 5 := by rw [hM 26 (by omega)]
              cases c with
              | none => rfl
              | some r =>
                have h1 := hAN.1
                exact if_pos (by omega)
          · rw [vN] at q3
            refine next M c (fun j hj => hM j (by omega)) (cAu_same hAN (hM 26 (by omega))) ?_
            rw [un, if_neg]
            intro hh
            rw [can _ (by omega), q3] at hh
            simp at hh
        · rw [vN] at qh
          rw [un, if_neg]
          intro hh
          rw [qh] at hh
          cases hh.2
    exact lp _ 0 μ a (by omega) (fun _ _ => rfl) hA rfl
  · rw [hv] at q1
    rw [q1] at hh
    cases hh.1
end
