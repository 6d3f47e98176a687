-- needs 77
/-! clear: the reference's call, the class's -/
section
variable {g : zG} {d : Nat} {K : Option zV → zM → Prop} {μ μ' Y : zM} {s : Nat} {S : zS} {nn x e t : Int}
theorem cl_len (x : Int) : ∀ (f : Nat) (Y : zM) (t : Int) (P : List Int) (a : zBst), (∀ q, a = some q → q.2.length ≤ 12) → P.length + f ≤ 12 → ∀ q, cl x f Y t P a = some q → q.2.length ≤ 12 := by
  intro f
  induction f with
  | zero => intro Y t P a ha _ q hq; exact ha q hq
  | succ f ih =>
    intro Y t P a ha hl q hq
    by_cases he : cl_e Y x = -1
    · rw [show cl x (f + 1) Y t P a = b_off a t P from if_pos he] at hq
      cases a with
      | none =>
        have hq : some (t, P) = some q := hq
        cases hq
        show P.length ≤ 12
        omega
      | some r =>
        by_cases c : t < r.1
        · rw [show b_off (some r) t P = some (t, P) from if_pos c] at hq
          cases hq
          show P.length ≤ 12
          omega
        · rw [show b_off (some r) t P = some r from if_neg c] at hq
          exact ha q hq
    · rw [show cl x (f + 1) Y t P a = z_lp (cl_b (cl_e Y x) (cl x f) Y t P) (Y 13 0 + 1).toNat 0 a from if_neg he] at hq
      have lp : ∀ (k i : Nat) (c : zBst), (∀ q, c = some q → q.2.length ≤ 12) → ∀ q, z_lp (cl_b (cl_e Y x) (cl x f) Y t P) k i c = some q → q.2.length ≤ 12 := by
        intro k
        induction k with
        | zero => intro i c hc q hq; exact hc q hq
        | succ k ih2 =>
          intro i c hc q hq
          refine ih2 (i + 1) _ (fun r hr => ?_) q hq
          unfold cl_b at hr
          split at hr
          · exact ih _ _ _ c hc (by simp; omega) r hr
          · exact hc r hr
      exact lp _ 0 a ha q hq
theorem M_clear (hd : 330 ≤ d) (hC : mS μ S) (hI : iS nn S) (h : ∀ μ', zEd μ' μ → mS μ' (o_clear S x).2 → K (some (.inl (o_clear S x).1)) μ') : zCall g d 224 [.inr (.inr ((0, 12), 119)), .inl x] μ K := by
  have w := hI.env
  have nw := hI.now
  have hC0 : mS (zU μ 119 33 0) S := hC.thr
  have hE : zEd (zU μ 119 33 0) μ := (zEd.refl μ).u (by omega)
  refine sX12_clear ⟨by omega, ?_⟩
  generalize zU μ 119 33 0 = N at *
  have ev := hC0.env
  unfold o_clear at h
  refine m_isStall (by omega) (by omega) (fun q => zb1 ?_) (fun q => zb0 ?_)
  · rw [if_pos (by omega)] at h
    have hc : cl_c S.1 x < 3 := by unfold cl_c; split <;> split <;> omega
    have hC1 : mS (zU N 119 48 (-1)) S := hC0.scr (fun j _ hj => zU_off j hj) (fun i hi => zU_ne (by unfold z_scs at hi; omega))
    have z42 : zU N 119 48 (-1) 119 42 = 0 := by rw [zU_ne (by omega)]; exact hC0.1.2.2
    refine m_clearFrom (co := S.1 14) (cn := S.1 15 0) (by omega) 3 (d - 1) _ S.1 0 [] none _ (by omega) hC1.1.1 hI.W hC1.1.2.1 hc (by omega) (zli_nil _) (by simp) zU_eq (by omega) (by omega) (fun M hM hvM m42 _ _ hA => zn ?_)
    have hCM : mS M (sY S S.1) := hC1.yard ⟨hvM, zRu_s hM hC1.1.2.1, by rw [m42, z42]⟩ (fun j hj hs => by unfold z_scm at hs; exact hM.1 j (by omega)) (fun i hi hs => by unfold z_scs at hs; exact hM.2 i (by omega))
    have hCM : mS M S := hCM
    have hEM : zEd M μ := fun j hj => by rw [hM.1 j (by omega), zU_off j (by omega)]; exact hE j hj
    have hlen := cl_len x 3 S.1 0 [] none (fun q hq => by cases hq) (by simp)
    generalize cl x 3 S.1 0 [] none = a at *
    cases a with
    | none =>
      have hA : M 119 48 = -1 := hA
      exact ⟨fun q => absurd hA q, fun _ => h M hEM hCM⟩
    | some q =>
      have hA2 := hA
      obtain ⟨a1, a2, a3, a4⟩ := hA2
      refine ⟨fun _ => m_tellBest (t := q.1) (r := q.2) hA (hlen q rfl) (by omega) (fun Q hQ hr => zn ?_), fun q2 => by omega⟩
      rw [hQ.2 49 (by omega), a1]
      exact h Q (fun j hj => by rw [hQ.1 j (by omega)]; exact hEM j hj) (hCM.row (fun j _ hj => hQ.1 j hj) (fun i _ hi => hQ.2 i hi) hr)
  · rw [if_neg (by omega)] at h
    exact h N hE hC0
/-- the class's best: 26/5 the minutes, 6 the first, 7 the last -/
def cA (M : zM) (b : Bool) (a : zBst) : Prop := match a with
  | none => M 26 5 = 1000000000
  | some q => M 26 5 = q.1 ∧ q.1 < 1000000 ∧ q.2 = (if b then [M 26 6, M 26 7] else [M 26 7])
theorem cA_same {M M' : zM} {b : Bool} {a : zBst} (h : cA M b a) (e : M' 26 = M 26) : cA M' b a := by
  unfold cA at *
  rw [e]
  exact h
theorem c_lastAway {first : Int} {b : Bool} {P : List Int} {a : zBst} (hd : 6 ≤ d) (hs : 20 ≤ s) (hs2 : ¬ (s ≤ 26 ∧ 26 ≤ s + 4)) (hr : zrl μ) (hv : vC μ s = Y) (hW : y_W Y) (hR : y_R Y) (hx : 0 ≤ x ∧ x < Y 13 0) (he : ¬ Y 0 x = -1) (h1 : Y 1 x = -1) (ht : 0 ≤ t ∧ t ≤ 1000) (hP : P = if b then [first] else []) (hA : cA μ b a)
    (h : ∀ μ', (∀ j, ¬ (j = 16 ∨ j = 17 ∨ j = 26) → μ' j = μ j) → cA μ' b (z_lp (cl_l (Y 0 x) Y t P) (Y 13 0 + 1).toNat 0 a) → K none μ') : zCall g d 86 [.inr (.inr ((0, 9), 26)), .inr (.inr ((0, 7), s)), .inl (Y 0 x), .inl t, .inl first] μ K := by
  have w := hW.1
  have ee : cl_e Y x = Y 0 x := by unfold cl_e; rw [if_pos h1]
  have be := cl_eb hW (x := x) (by omega) (by omega)
  rw [ee] at be
  have can := fun p => cl_can (p := p) hW (x := x) (by omega) (by omega)
  rw [ee] at can
  have s1 : μ s 1 = Y 5 1 := by rw [← hv]; rfl
  have s3 : μ (s + 3) (Y 0 x) = Y 2 (Y 0 x) := by rw [← hv]; exact (y_in (by rw [hv]; omega)).symm
  have wn := hW.2.1
  refine sX9_tryLastAway ⟨by omega, ?_⟩
  rw [s1]
  refine c_mayGo (by omega) (by rw [hv]; exact hW) (by omega) (by omega) (fun q1 => zb1 ⟨by omega, ?_⟩) (fun q1 => zb0 (h μ (fun _ _ => rfl) ?_))
  · rw [hv] at q1
    rw [s3, be.2.1]
    have lp : ∀ (k i : Nat) (N : zM) (c : zBst), i + k = (Y 13 0 + 1).toNat → (∀ j, ¬ (j = 16 ∨ j = 17 ∨ j = 26) → N j = μ j) → cA N b c → z_lp (cl_l (Y 0 x) Y t P) (Y 13 0 + 1).toNat 0 a = z_lp (cl_l (Y 0 x) Y t P) k i c → zT g d mX9_tryLastAway K 28 [some (.inr (.inr ((0, 9), 26))), some (.inr (.inr ((0, 7), s))), some (.inl (Y 0 x)), some (.inl t), some (.inl first), some (.inl x), some (.inl (i : Int)), none] [] N := by
      intro k
      induction k with
      | zero =>
        intro i N c hi hE hAN hcl
        have n0 : N 1 0 = Y 13 0 := by rw [hE 1 (by omega), ← hv]; rfl
        refine sX9_tryLastAway_28 ⟨fun _ => h N hE ?_, fun q => by omega⟩
        rw [hcl]
        exact hAN
      | succ k ih2 =>
        intro i N c hi hE hAN hcl
        have n0 : N 1 0 = Y 13 0 := by rw [hE 1 (by omega), ← hv]; rfl
        have rN : zrl N := zrl_same hr (hE 12 (by omega))
        have vN : vC N s = Y := by rw [← hv]; exact vC_same hr (fun j _ _ => hE j (by omega)) (fun j _ _ => hE j (by omega))
        have next : ∀ M c', (∀ j, ¬ (j = 16 ∨ j = 17 ∨ j = 26) → M j = N j) → cA M b c' → cl_l (Y 0 x) Y t P i c = c' → zT g d mX9_tryLastAway K 28 [some (.inr (.inr ((0, 9), 26))), some (.inr (.inr ((0, 7), s))), some (.inl (Y 0 x)), some (.inl t), some (.inl first), some (.inl x), some (.inl (zw ((i : Int) + 1))), none] [] M := by
          intro M c' hM k5 k6
          rw [zw_suc (by omega)]
          refine ih2 (i + 1) M c' (by omega) (fun j hj => by rw [hM j hj, hE j hj]) k5 ?_
          rw [hcl, ← k6]
          rfl
        have bm := f_min_b hW (a := x) (b := (i : Int)) (by omega) (by omega)
        have un : cl_l (Y 0 x) Y t P i c = if f_may Y (Y 0 x) (Y 5 1) = true ∧ f_can Y (Y 0 x) (i : Int) = true then b_off c (t + f_min Y x (i : Int)) (P ++ [(i : Int)]) else c := by
          unfold cl_l cl_b
          rw [be.2.2.1]
        refine sX9_tryLastAway_28 ⟨fun q => by omega, fun _ => ⟨by omega, c_minutes (by omega) (by rw [vN]; exact hW) (by omega) (by omega) (zi ?_)⟩⟩
        rw [vN, zwi (x := t + f_min Y x (i : Int)) (by omega) (by omega)]
        refine ⟨fun q => next N c (fun _ _ => rfl) hAN ?_, fun q => ⟨fun q2 => next N c (fun _ _ => rfl) hAN ?_, fun q2 => c_canStandAt (by omega) hs rN (by rw [vN]; exact hW) (by rw [vN]; exact hR) (by omega) (by omega) (fun M hM q3 => zb1 ?_) (fun M hM q3 => zb0 ?_)⟩⟩
        · rw [un, if_neg]
          intro hh
          rw [can] at hh
          simp [q] at hh
        · rw [un]
          split
          · refine b_off_le ?_
            cases c with
            | none =>
              have : N 26 5 = 1000000000 := hAN
              omega
            | some r =>
              have h1 := hAN.1
              show r.1 ≤ _
              omega
          · rfl
        · rw [vN] at q3
          refine next _ (some (t + f_min Y x (i : Int), P ++ [(i : Int)])) (fun j hj => by rw [zU_off j (by omega), zU_off j (by omega), zU_off j (by omega)]; exact hM j (by omega)) ?_ ?_
          · refine ⟨by rw [zU_ne (by omega), zU_ne (by omega), zU_eq], by show t + f_min Y x (i : Int) < 1000000; omega, ?_⟩
            rw [zU_eq, zU_ne (b := 6) (by omega), zU_eq, hP]
            cases b <;> rfl
          · rw [un, if_pos ⟨q1, by rw [can, q3]; simp [q]⟩]
            have e26 : M 26 5 = N 26 5 := by rw [hM 26 (by omega)]
            cases c with
            | none => rfl
            | some r =>
              have h1 := hAN.1
              exact if_pos (by omega)
        · rw [vN] at q3
          refine next M c (fun j hj => hM j (by omega)) (cA_same hAN (hM 26 (by omega))) ?_
          rw [un, if_neg]
          intro hh
          rw [can, q3] at hh
          simp at hh
    exact lp _ 0 μ a (by omega) (fun _ _ => rfl) hA rfl
  · rw [hv] at q1
    rw [z_lp_id]
    · exact hA
    · intro j _ _
      unfold cl_l cl_b
      exact if_neg (fun hh => by rw [q1] at hh; cases hh.1)
end
