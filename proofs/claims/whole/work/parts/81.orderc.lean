-- needs 80
/-! order: the class's search -/
def cAo (M : zM) (L : Nat) (a : zBst) : Prop := match a with
  | none => M 26 5 = 1000000000
  | some q => M 26 5 = q.1 ∧ q.1 < 1000000 ∧ q.2.length = L ∧ zli (M 29) q.2
theorem cAo_same {M M' : zM} {L : Nat} {a : zBst} (h : cAo M L a) (e : M' 26 = M 26) (e2 : M' 29 = M 29) : cAo M' L a := by
  unfold cAo at *
  rw [e, e2]
  exact h
/-- what the search at a level may change -/
def zEl (p : Nat) (μ' μ : zM) : Prop := ∀ j, ¬ (j = 16 ∨ j = 17 ∨ j = 25 ∨ j = 26 ∨ j = 28 ∨ j = 29 ∨ (37 + 5 * p ≤ j ∧ j ≤ 61)) → μ' j = μ j
theorem zEl.refl (p : Nat) (μ : zM) : zEl p μ μ := fun _ _ => rfl
theorem zEl.trans {p : Nat} {a b c : zM} (h : zEl p a b) (h' : zEl p b c) : zEl p a c := fun j hj => (h j hj).trans (h' j hj)
theorem zEl.v {p : Nat} {a b : zM} (h : zEl p a b) (hr : zrl b) (hp : p ≤ 5) : vC a (32 + 5 * p) = vC b (32 + 5 * p) := vC_same hr (fun j _ _ => h j (by omega)) (fun j _ _ => h j (by omega))
section
variable {g : zG}
theorem c_tryOrders {L : Nat} (hL : L ≤ 5) : ∀ (f d : Nat) (μ Y : zM) (D : Nat) (t : Int) (P : List Int) (a : zBst) (K : Option zV → zM → Prop), 10 + f ≤ d → vC μ (32 + 5 * P.length) = Y → zrl μ → y_W Y → y_R Y → or_in Y D → fr_c D 12 < f → f ≤ 6 → P.length + fr_c D 12 = L → zli (μ 28) P → cAo μ L a → ¬ b_le a t → (0 ≤ t ∧ t + 500 * f ≤ 10000) → Y 5 1 + 500 * f ≤ 399000 → (∀ μ', zEl P.length μ' μ → zli (μ' 28) P → cAo μ' L (or_go f Y D t P a) → K none μ') → zCall g d 83 [.inr (.inr ((0, 9), 26)), .inl (D : Int), .inl (P.length : Int), .inl t] μ K := by
  intro f
  induction f with
  | zero => intro d μ Y D t P a K _ _ _ _ _ _ hc; omega
  | succ f ih =>
    intro d μ Y D t P a K hd hv hr hW hR hD hc hf hl hP hA hb ht hn h
    have w := hW.1
    have wn := hW.2.1
    have D4 := hD.1
    refine sX9_tryOrders ⟨fun q => ⟨fun q1 => ⟨by omega, ?_⟩, fun q1 => ?_⟩, fun q => ⟨by omega, by omega, ?_⟩⟩
    · rw [zw_suc (by omega)]
      refine ⟨by omega, ?_⟩
      rw [show ((P.length : Int)).toNat = P.length from by omega, show (((P.length + 1 : Nat) : Int)).toNat = P.length + 1 from by omega]
      have hD0 : ¬ D = 0 := by omega
      have cc : or_go (f + 1) Y D t P a = z_lp (or_b (or_go f) Y D t P) 12 0 a := if_neg hD0
      have lp : ∀ (k i : Nat) (N : zM) (c : zBst), i + k = 12 → zEl P.length N μ → zli (N 28) P → cAo N L c → or_go (f + 1) Y D t P a = z_lp (or_b (or_go f) Y D t P) k i c → zT g d mX9_tryOrders K 51 [some (.inr (.inr ((0, 9), 26))), some (.inl (D : Int)), some (.inl (P.length : Int)), some (.inl t), some (.inr (.inr ((0, 7), 32 + 5 * P.length))), some (.inr (.inr ((0, 7), 32 + 5 * (P.length + 1)))), some (.inl (i : Int)), none, none] [] N := by
        intro k
        induction k with
        | zero =>
          intro i N c hi hE hPN hAN hcl
          refine sX9_tryOrders_51 ⟨fun _ => h N hE hPN ?_, fun q => by omega⟩
          rw [hcl]
          exact hAN
        | succ k ih2 =>
          intro i N c hi hE hPN hAN hcl
          have rN : zrl N := zrl_same hr (hE 12 (by omega))
          have vN : vC N (32 + 5 * P.length) = Y := by rw [hE.v hr (by omega), hv]
          have n3 : N (32 + 5 * P.length + 3) (i : Int) = Y 2 (i : Int) := by rw [← vN]; exact (y_in (by omega)).symm
          have n5 : N 5 0 = Y 13 3 := by rw [← vN]; rfl
          have next : ∀ M c', zEl P.length M N → zli (M 28) P → cAo M L c' → or_b (or_go f) Y D t P i c = c' → zT g d mX9_tryOrders K 51 [some (.inr (.inr ((0, 9), 26))), some (.inl (D : Int)), some (.inl (P.length : Int)), some (.inl t), some (.inr (.inr ((0, 7), 32 + 5 * P.length))), some (.inr (.inr ((0, 7), 32 + 5 * (P.length + 1)))), some (.inl (zw ((i : Int) + 1))), none, none] [] M := by
            intro M c' hM k4 k5 k6
            rw [zw_suc (by omega)]
            refine ih2 (i + 1) M c' (by omega) (hM.trans hE) k4 k5 ?_
            rw [hcl, ← k6]
            rfl
          refine sX9_tryOrders_51 ⟨fun q2 => by omega, fun _ => ⟨fun q3 => ⟨by omega, ?_⟩, fun q3 => next N c (zEl.refl _ N) hPN hAN ?_⟩⟩
          · have tb : D.testBit i = true := by
              rw [z_tst0 (by omega) (by omega)] at q3
              simpa using q3
            have fc := fr_c_oc D i 12 (by omega)
            rw [if_pos ⟨by omega, tb⟩] at fc
            have i3 := hD.2 i tb
            have hl2 : (P ++ [(i : Int)]).length = P.length + 1 := by simp
            -- no better
            have worse : ∀ (Z : zM) (u : Int), y_W Z → Z 13 = Y 13 → Z 5 1 = Y 5 1 + u → (0 ≤ u ∧ u ≤ 500) → N 26 5 ≤ t + u → or_go f Z (or_clr D i) (t + u) (P ++ [(i : Int)]) c = c := by
              intro Z u WZ z13 z5 hu hle
              refine or_prune f Z _ _ _ c WZ (or_in_clr hD z13) (by rw [z5]; omega) ?_
              cases c with
              | none =>
                have : N 26 5 = 1000000000 := hAN
                omega
              | some r =>
                have h1 := hAN.1
                show r.1 ≤ _
                omega
            -- better: the next level
            have deep : ∀ (M Z : zM) (u : Int), zEl P.length M N → M 26 = N 26 → M 28 = N 28 → M 29 = N 29 → vC M (32 + 5 * (P.length + 1)) = Z → y_W Z → y_R Z → Z 13 = Y 13 → Z 5 1 = Y 5 1 + u → (0 ≤ u ∧ u ≤ 500) → t + u < N 26 5 → or_b (or_go f) Y D t P i c = or_go f Z (or_clr D i) (t + u) (P ++ [(i : Int)]) c → zCall g (d - 1) 83 [.inr (.inr ((0, 9), 26)), .inl (zand (D : Int) (zxor (zshl 1 (i : Int)) (-1))), .inl (zw ((P.length : Int) + 1)), .inl (zw (t + u))] (zU M 28 (P.length : Int) (i : Int)) (zNn fun μ2 => zT g d mX9_tryOrders K 51 [some (.inr (.inr ((0, 9), 26))), some (.inl (D : Int)), some (.inl (P.length : Int)), some (.inl t), some (.inr (.inr ((0, 7), 32 + 5 * P.length))), some (.inr (.inr ((0, 7), 32 + 5 * (P.length + 1)))), some (.inl (zw ((i : Int) + 1))), none, none] [] μ2) := by
              intro M Z u hM m26 m28 m29 hvM WZ RZ z13 z5 hu hlt ho
              rw [or_clr_z D4 (by omega), zw_suc (by omega), zwi (x := t + u) (by omega) (by omega), ← hl2]
              have rM : zrl (zU M 28 (P.length : Int) (i : Int)) := zrl_U (zrl_same rN (hM 12 (by omega))) (by omega)
              refine ih (d - 1) _ Z (or_clr D i) (t + u) (P ++ [(i : Int)]) c _ (by omega) ?_ rM WZ RZ (or_in_clr hD z13) (by omega) (by omega) (by omega) ?_ (cAo_same hAN (by rw [zU_off 26 (by omega), m26]) (by rw [zU_off 29 (by omega), m29])) ?_ (by omega) (by rw [z5]; omega) (fun Q hQ hPQ hAQ => zn ?_)
              · rw [hl2, ← hvM]
                exact vC_same (zrl_same rN (hM 12 (by omega))) (fun j _ _ => zU_off j (by omega)) (fun j _ _ => zU_off j (by omega))
              · rw [zU_row]
                refine zli_snoc ?_
                rw [m28]
                exact hPN
              · intro hb2
                cases c with
                | none => exact hb2
                | some r =>
                  have h1 := hAN.1
                  have : r.1 ≤ t + u := hb2
                  omega
              · rw [hl2] at hQ ⊢
                refine next Q _ (fun j hj => ?_) (zli_pre hPQ) hAQ ho
                rw [hQ j (by omega), zU_off j (by omega), hM j hj]
            refine c_onRoad (by omega) (fun q4 => zb1 ?_) (fun q4 => zb0 ?_)
            · rw [n3] at q4
              have un : or_b (or_go f) Y D t P i c = or_go f Y (or_clr D i) (t + 0) (P ++ [(i : Int)]) c := by
                unfold or_b
                rw [if_pos tb, if_pos q4, Int.add_zero]
              refine sX9_tryOrders_99 ⟨fun q5 => by omega, fun _ => ⟨fun q5 => ⟨by omega, ?_⟩, fun q5 => next N c (zEl.refl _ N) hPN hAN ?_⟩⟩
              · rw [zwi (x := t + 0) (by omega) (by omega)] at q5
                refine c_takeFrom (by omega) (by omega) (by omega) (by omega) rN (fun M hM hvM => zn ⟨fun _ => ⟨by omega, ?_⟩, fun q6 => by omega⟩)
                exact deep M Y 0 (fun j hj => hM j (by omega)) (hM 26 (by omega)) (hM 28 (by omega)) (hM 29 (by omega)) (by rw [hvM, vN]) hW hR rfl (by omega) (by omega) q5 un
              · rw [zwi (x := t + 0) (by omega) (by omega)] at q5
                rw [un]
                exact worse Y 0 hW rfl (by omega) (by omega) q5
            · refine c_freeing (by omega) (Or.inr (Or.inl (by omega))) rN (by rw [vN]; exact hW) (by rw [vN]; exact hR) (by omega) q4 (fun M hM hfM => zi ?_)
              rw [n3] at q4
              rw [vN] at hfM ⊢
              have eM : zEl P.length M N := fun j hj => hM j (by omega)
              have PM : zli (M 28) P := by rw [hM 28 (by omega)]; exact hPN
              have AM : cAo M L c := cAo_same hAN (hM 26 (by omega)) (hM 29 (by omega))
              by_cases hfr : f_frees Y (i : Int) = true
              · rw [if_pos hfr]
                have wf := w_free hW (e := (i : Int)) (by omega) q4 hfr (by omega)
                have ba := f_am_b hW (e := (i : Int)) (by omega) hfr
                have bo := f_om_b hW (e := (i : Int)) (by omega) q4 hfr (by omega)
                have un : or_b (or_go f) Y D t P i c = or_go f (f_free Y (i : Int)) (or_clr D i) (t + (f_am Y (i : Int) + f_om Y (i : Int))) (P ++ [(i : Int)]) c := by
                  unfold or_b
                  rw [if_pos tb, if_neg q4, if_pos hfr]
                refine sX9_tryOrders_99 ⟨fun q5 => by omega, fun _ => ⟨fun q5 => ⟨by omega, ?_⟩, fun q5 => next M c eM PM AM ?_⟩⟩
                · rw [zwi (x := t + (f_am Y (i : Int) + f_om Y (i : Int))) (by omega) (by omega), hM 26 (by omega)] at q5
                  refine c_takeFrom (by omega) (by omega) (by omega) (by omega) (zrl_same rN (hM 12 (by omega))) (fun M2 hM2 hv2 => zn ⟨fun q6 => absurd rfl q6, fun _ => ?_⟩)
                  have vM' : vC M (32 + 5 * P.length) = Y := by rw [hM.v rN (Or.inr (Or.inl (by omega))), vN]
                  rw [vM'] at hv2
                  have r2 : zrl M2 := zrl_same rN (by rw [hM2 12 (by omega), hM 12 (by omega)])
                  have b3 : M2 (32 + 5 * (P.length + 1) + 3) (i : Int) = Y 2 (i : Int) := by rw [← hv2]; exact (y_in (by omega)).symm
                  have b1 : M2 (32 + 5 * (P.length + 1)) 1 = Y 5 1 := by rw [← hv2]; rfl
                  refine c_sendOut (by omega) (Or.inr (Or.inl (by omega))) r2 (by rw [hv2]; exact hW) (by rw [hM2 5 (by omega), hM 5 (by omega)]; omega) (by rw [b3]; exact q4) (by omega) (by rw [hv2]; exact hfr) (by rw [hM2 25 (by omega), hv2]; exact (hfM hfr).1) (fun M3 hM3 hv3 => zn ⟨by omega, ?_⟩)
                  rw [hv2] at hv3
                  exact deep M3 (f_free Y (i : Int)) _ (fun j hj => by rw [hM3 j (by omega), hM2 j (by omega), hM j (by omega)]) (by rw [hM3 26 (by omega), hM2 26 (by omega), hM 26 (by omega)]) (by rw [hM3 28 (by omega), hM2 28 (by omega), hM 28 (by omega)]) (by rw [hM3 29 (by omega), hM2 29 (by omega), hM 29 (by omega)]) hv3 wf.1 (y_R_free hR) f_free_13 wf.2 (by omega) q5 un
                · rw [zwi (x := t + (f_am Y (i : Int) + f_om Y (i : Int))) (by omega) (by omega), hM 26 (by omega)] at q5
                  rw [un]
                  exact worse _ _ wf.1 f_free_13 wf.2 (by omega) q5
              · rw [if_neg hfr]
                refine sX9_tryOrders_99 ⟨fun _ => next M c eM PM AM ?_, fun q5 => by omega⟩
                unfold or_b
                rw [if_pos tb, if_neg q4, if_neg hfr]
          · rw [z_tst0 (by omega) (by omega)] at q3
            exact if_neg (fun hh => by rw [show ((i : Int)).toNat = i from by omega] at q3; rw [q3] at hh; cases hh)
      exact lp 12 0 μ a (by omega) (zEl.refl _ μ) hP hA cc
    · have : fr_c D 12 = 0 := by omega
      have := or_0 D4 this
      omega
    · have hD0 : D = 0 := by omega
      have hc0 : fr_c D 12 = 0 := by rw [hD0]; decide
      refine h _ (fun j hj => by rw [zcp_off _ (by omega), zU_off j (by omega)]) ?_ ?_
      · rw [zcp_off _ (by omega), zU_off 28 (by omega)]
        exact hP
      · rw [show or_go (f + 1) Y D t P a = b_off a t P from if_pos hD0]
        have bo : b_off a t P = some (t, P) := by
          cases a with
          | none => rfl
          | some r => exact if_pos (by have : ¬ r.1 ≤ t := hb; omega)
        rw [bo]
        refine ⟨by rw [zcp_off _ (by omega), zU_eq], by show t < 1000000; omega, by show P.length = L; omega, fun k v hk => ?_⟩
        have kl : k < P.length := by
          rcases Nat.lt_or_ge k P.length with q | q
          · exact q
          · have hk : P[k]? = some v := hk
            rw [List.getElem?_eq_none q] at hk; cases hk
        rw [zcp_in (by omega), zU_off 28 (by omega), show (k : Int) - 0 + 0 = (k : Int) from by omega]
        exact hP k v hk
end
