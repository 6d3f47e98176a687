-- needs 50 51 52 53 54 55 56
/-! operations: drag, free, inside, nobody, comes, leaves, fits, plan -/
section
variable {g : zG} {d : Nat} {K : Option zV → zM → Prop} {μ μ' Y : zM} {s : Nat} {r : List Int} {S : zS} {co : Int → Int} {cn n x y z b i v e p : Int}
def o_drag (S : zS) (e b p : Int) : Int × zS := if (0 ≤ e ∧ e < S.1 13 3) ∧ (0 ≤ b ∧ b < S.1 13 3) ∧ ¬ e = b ∧ (0 ≤ p ∧ p ≤ S.1 13 0) ∧ S.1 2 b = -1 ∧ f_may S.1 b (S.1 5 1) = true ∧ f_can S.1 e p = true then (2 * f_min S.1 (f_point S.1 e) p, sY S (f_bring S.1 e p (2 * f_min S.1 (f_point S.1 e) p))) else (-1, S)
theorem C_drag (hd : 6 ≤ d) (hC : cS μ S) (hI : iS n S) (h : ∀ μ', zEc μ' μ → cS μ' (o_drag S e b p).2 → K (some (.inl (o_drag S e b p).1)) μ') : zCall g d 126 [.inr (.inr ((0, 11), 0)), .inl e, .inl b, .inl p] μ K := by
  have w := hI.env
  have nw := hI.now
  have ev := hC.env
  have hv := hC.1.1
  have no : ¬ ((0 ≤ e ∧ e < S.1 13 3) ∧ (0 ≤ b ∧ b < S.1 13 3) ∧ ¬ e = b ∧ (0 ≤ p ∧ p ≤ S.1 13 0) ∧ S.1 2 b = -1 ∧ f_may S.1 b (S.1 5 1) = true ∧ f_can S.1 e p = true) → ∀ M, zEq16 M μ → K (some (.inl (-1))) M := by
    intro q M hM
    unfold o_drag at h
    rw [if_neg q] at h
    exact h M (fun j hj => hM j (by omega)) (hC.scr (fun j hj => hM j (by unfold z_scr at hj; omega)))
  refine sX11_drag ⟨by omega, c_has (fun q => zb1 (c_has (fun q1 => zb1 ⟨fun q2 => no (fun hh => hh.2.2.1 q2.symm) μ (zEq16.refl μ), fun q2 => c_hasPoint (fun q3 => zb1 (c_onRoad (s := 20) (by omega) (fun q4 => zb1 (c_mayGo (by omega) (hC.W hI) (by omega) (by omega) (fun q5 => zb1 (c_canGoTo (by omega) (by omega) hC.1.2.1 (hC.W hI) (by rw [hv]; exact hI.R) (by omega) (by omega) (fun M hM q6 => zb1 ?_) (fun M hM q6 => zb0 (no (fun hh => ?_) M hM)))) (fun q5 => zb0 (no (fun hh => ?_) μ (zEq16.refl μ))))) (fun q4 => zb0 (no (fun hh => q4 (by rw [(hC.en (by omega)).1]; exact hh.2.2.2.2.1)) μ (zEq16.refl μ))))) (fun q3 => zb0 (no (fun hh => q3 (by omega)) μ (zEq16.refl μ)))⟩) (fun q1 => zb0 (no (fun hh => q1 (by omega)) μ (zEq16.refl μ))))) (fun q => zb0 (no (fun hh => q (by omega)) μ (zEq16.refl μ)))⟩
  · rw [hv] at q6
    rw [hv, ev.2.2.2.2.2] at q5
    rw [(hC.en (e := b) (by omega)).1] at q4
    have hvM : vC M 20 = S.1 := by rw [hM.v hC.1.2.1 (by omega), hv]
    have hCM : cS M S := hC.scr (fun j hj => hM j (by unfold z_scr at hj; omega))
    refine c_shift2 (by omega) (by omega) hCM.1.2.1 (hCM.W hI) (by omega) (by rw [hCM.env.1]; omega) (Or.inr rfl) (fun N hN hN2 hvN => zi ?_)
    rw [hvM] at hvN ⊢
    unfold o_drag at h
    rw [if_pos ⟨by omega, by omega, by omega, by omega, q4, q5, q6⟩] at h
    exact h N (fun j hj => by rw [hN j (by omega), hM j (by omega)]) (hCM.bring hN hN2 hvN)
  · rw [hv] at q6
    rw [q6] at hh
    cases hh.2.2.2.2.2.2
  · rw [hv, ev.2.2.2.2.2] at q5
    rw [q5] at hh
    cases hh.2.2.2.2.2.1
theorem M_drag (hd : 330 ≤ d) (hC : mS μ S) (hI : iS n S) (h : ∀ μ', zEd μ' μ → mS μ' (o_drag S e b p).2 → K (some (.inl (o_drag S e b p).1)) μ') : zCall g d 215 [.inr (.inr ((0, 12), 119)), .inl e, .inl b, .inl p] μ K := by
  have w := hI.env
  have nw := hI.now
  have hC0 : mS (zU μ 119 33 0) S := hC.thr
  have hE : zEd (zU μ 119 33 0) μ := (zEd.refl μ).u (by omega)
  refine sX12_drag ⟨by omega, ?_⟩
  generalize zU μ 119 33 0 = N at *
  have ev := hC0.env
  have hv := hC0.1.1
  have no : ¬ ((0 ≤ e ∧ e < S.1 13 3) ∧ (0 ≤ b ∧ b < S.1 13 3) ∧ ¬ e = b ∧ (0 ≤ p ∧ p ≤ S.1 13 0) ∧ S.1 2 b = -1 ∧ f_may S.1 b (S.1 5 1) = true ∧ f_can S.1 e p = true) → ∀ M, zEm M N → K (some (.inl (-1))) M := by
    intro q M hM
    unfold o_drag at h
    rw [if_neg q] at h
    exact h M ((zEd.m hM).trans hE) (hC0.m hM)
  refine m_isEngine (by omega) (by omega) (fun q => zb1 (m_isEngine (by omega) (by omega) (fun q1 => zb1 ⟨fun q2 => no (fun hh => hh.2.2.1 q2) N (zEm.refl N), fun q2 => m_isPoint (by omega) (fun q3 => zb1 ⟨by omega, fun q4 => no (fun hh => q4 (by rw [(hC0.en (by omega)).1]; exact hh.2.2.2.2.1)) N (zEm.refl N), fun q4 => m_mayGo (co := S.1 14) (cn := S.1 15 0) (by omega) (hC0.W hI) (by omega) (fun q5 => zb1 (m_canBe (co := S.1 14) (cn := S.1 15 0) (by omega) (hC0.W hI) hC0.1.2.1 (by omega) (by omega) (fun M hM q6 => zb1 ?_) (fun M hM q6 => zb0 (no (fun hh => ?_) M hM)))) (fun q5 => zb0 (no (fun hh => ?_) N (zEm.refl N)))⟩) (fun q3 => zb0 (no (fun hh => q3 (by omega)) N (zEm.refl N)))⟩) (fun q1 => zb0 (no (fun hh => q1 (by omega)) N (zEm.refl N))))) (fun q => zb0 (no (fun hh => q (by omega)) N (zEm.refl N)))
  · rw [hv] at q6
    rw [hv, ev.2.2.2.2.2] at q5
    rw [(hC0.en (e := b) (by omega)).1] at q4
    have hCM := hC0.m hM
    have hvM := hCM.1.1
    have ha : f_ahead S.1 e = -1 := by
      unfold f_can at q6
      simp at q6
      exact q6.2.1
    have bm := f_min_b hI.W (f_point_b hI.W (e := e) (by omega)) (b := p) (by omega)
    refine m_cost (co := S.1 14) (cn := S.1 15 0) (by omega) (hCM.W hI) (by rw [hCM.env.2.2.2.1]; omega) (by rw [hCM.env.1]; omega) (zi ?_)
    rw [hvM, zwi (x := 2 * f_min S.1 (f_point S.1 e) p) (by omega) (by omega)]
    refine m_bring (co := S.1 14) (cn := S.1 15 0) (by omega) (hCM.W hI) (by rw [hCM.env.2.2.2.1]; omega) (by rw [hvM]; exact ha) (by rw [hCM.env.1]; omega) (by omega) (by rw [hCM.1.2.2]; omega) (fun P hP _ _ _ hvP => zn ?_)
    rw [hvM] at hvP
    unfold o_drag at h
    rw [if_pos ⟨by omega, by omega, q2, by omega, q4, q5, q6⟩] at h
    have hPM : zEd P M := fun j hj => hP.1 j (by omega)
    exact h _ ((hPM.trans ((zEd.m hM).trans hE)).u (by omega)) (hCM.bring hP hvP)
  · rw [hv] at q6
    rw [q6] at hh
    cases hh.2.2.2.2.2.2
  · rw [hv, ev.2.2.2.2.2] at q5
    rw [q5] at hh
    cases hh.2.2.2.2.2.1
/-- the walk of undo from its first row is the call -/
theorem m_undoC (h : zT g d mX12_undo K 0 [some (.inr (.inr ((0, 12), 119))), some (.inl x)] [] μ) : zCall g d 213 [.inr (.inr ((0, 12), 119)), .inl x] μ K :=
  Or.inl (zCal0.intro (id := 213) ⟨by decide +kernel, by decide +kernel⟩ (Nat.le_of_ble_eq_true rfl) (fun _ _ => Or.elim h id False.elim))
def o_free (S : zS) (e : Int) : Int × zS := if (0 ≤ e ∧ e < S.1 13 3) ∧ ¬ S.1 2 e = -1 then (if f_frees S.1 e = true then (f_am S.1 e + f_om S.1 e, sR S [f_to S.1 e]) else (-2, S)) else (-1, S)
theorem C_free (hd : 6 ≤ d) (hC : cS μ S) (hI : iS n S) (h : ∀ μ', zEc μ' μ → cS μ' (o_free S e).2 → K (some (.inl (o_free S e).1)) μ') : zCall g d 127 [.inr (.inr ((0, 11), 0)), .inl e] μ K := by
  have w := hI.env
  have nw := hI.now
  have ev := hC.env
  have hv := hC.1.1
  unfold o_free at h
  refine sX11_free ⟨by omega, c_has (fun q => zb1 (c_onRoad (s := 20) (by omega) (fun q2 => zb1 ?_) (fun q2 => zb0 (c_freeing (by omega) (Or.inl rfl) hC.1.2.1 (hC.W hI) (by rw [hv]; exact hI.R) (by omega) q2 (fun M hM hf => zi ?_))))) (fun q => zb0 ?_)⟩
  · rw [(hC.en (by omega)).1] at q2
    rw [if_neg (fun hh => hh.2 q2)] at h
    exact h μ (zEc.refl μ) hC
  · have q3 := q2
    rw [(hC.en (by omega)).1] at q3
    rw [if_pos ⟨by omega, q3⟩] at h
    rw [hv] at hf ⊢
    have hCM : cS M S := hC.scr (fun j hj => hM j (by unfold z_scr at hj; omega))
    have hEM : zEc M μ := fun j hj => hM j (by omega)
    by_cases hfr : f_frees S.1 e = true
    · rw [if_pos hfr] at h ⊢
      have ba := f_am_b hI.W (e := e) (by omega) hfr
      have bo := f_om_b hI.W (e := e) (by omega) q3 hfr (by omega)
      refine ⟨fun _ => ?_, fun q4 => by omega⟩
      rw [(hf hfr).1]
      refine c_tellOneR (by omega) (fun N hN hr => zn (h N (fun j hj => by rw [hN j (by omega), hM j (by omega)]) (hCM.row (fun j _ hj => hN j hj) hr)))
    · rw [if_neg hfr] at h ⊢
      exact ⟨fun q4 => by omega, fun _ => h M hEM hCM⟩
  · rw [if_neg (fun hh => q (by omega))] at h
    exact h μ (zEc.refl μ) hC
theorem M_free (hd : 330 ≤ d) (hC : mS μ S) (hI : iS n S) (h : ∀ μ', zEd μ' μ → mS μ' (o_free S e).2 → K (some (.inl (o_free S e).1)) μ') : zCall g d 217 [.inr (.inr ((0, 12), 119)), .inl e] μ K := by
  have w := hI.env
  have nw := hI.now
  have hC0 : mS (zU μ 119 33 0) S := hC.thr
  have hE : zEd (zU μ 119 33 0) μ := (zEd.refl μ).u (by omega)
  refine sX12_free ⟨by omega, ?_⟩
  generalize zU μ 119 33 0 = N at *
  have ev := hC0.env
  have hv := hC0.1.1
  unfold o_free at h
  refine m_isEngine (by omega) (by omega) (fun q => zb1 ⟨by omega, fun q2 => ?_, fun q2 => ?_⟩) (fun q => zb0 ?_)
  · have q3 := q2
    rw [(hC0.en (by omega)).1] at q3
    rw [if_pos ⟨by omega, q3⟩] at h
    refine m_freeNow (co := S.1 14) (cn := S.1 15 0) (by omega) (hC0.W hI) hC0.1.2.1 (by omega) q2 (by omega) (by rw [hC0.1.2.2]; omega) (fun hfr M hM hvM h43 h44 h45 h42 hP hh => zb1 ?_) (fun hfr M hM hvM h42 h141 => zb0 ?_)
    · rw [hv] at hfr hvM h43 h44 h45 h42 hh
      rw [if_pos hfr] at h
      have ba := f_am_b hI.W (e := e) (by omega) hfr
      have bo := f_om_b hI.W (e := e) (by omega) q3 hfr (by omega)
      have wf := w_free hI.W (e := e) (by omega) q3 hfr (by omega)
      have hml : (f_mv S.1 e).length ≤ 2 := by unfold f_mv; split <;> simp
      rw [hC0.1.2.2] at h42
      refine m_undoC (m_undo (x := 0) (co := S.1 14) (cn := S.1 15 0) (by omega) (f_mv S.1 e) S.1 M (by rw [hvM]; exact wf.1) ⟨by omega, by rw [h42], by omega⟩ (by rw [hvM]; exact hh) (fun P hP h0 _ hvP => zn ?_))
      have hPN : ∀ j, ¬ (j = 119 ∨ j = 123 ∨ j = 124 ∨ j = 130 ∨ j = 141) → P j = N j := fun j hj => by rw [hP.1 j hj, hM.1 j hj]
      have hPs : ∀ i, ¬ (i = 14 ∨ i = 15 ∨ (34 ≤ i ∧ i ≤ 40) ∨ (42 ≤ i ∧ i ≤ 45)) → P 119 i = N 119 i := fun i hi => by rw [hP.2 i (by omega), hM.2 i hi]
      have hCP : mS P (sY S S.1) := hC0.yard ⟨hvP, by rw [hPN 138 (by omega), hPs 28 (by omega)]; exact hC0.1.2.1, h0⟩ (fun j hj hs => by unfold z_scm at hs; exact hPN j (by omega)) (fun i hi hs => by unfold z_scs at hs; exact hPs i (by omega))
      have hCP : mS P S := hCP
      have p43 : P 119 43 = f_to S.1 e := by rw [hP.2 43 (by omega)]; exact h43
      rw [p43]
      refine m_tellR mR_0 (by simp) (fun Q hQ hr => zn ?_)
      have hQ' := hQ.trans zE32_0
      rw [hQ'.2 44 (by omega), hQ'.2 45 (by omega), hP.2 44 (by omega), hP.2 45 (by omega), h44, h45, zwi (x := f_am S.1 e + f_om S.1 e) (by omega) (by omega)]
      refine h Q (fun j hj => ?_) (hCP.row (fun j _ hj => hQ'.1 j hj) (fun i _ hi => hQ'.2 i hi) hr)
      rw [hQ'.1 j (by omega), hPN j (by omega), hE j hj]
    · rw [hv] at hfr hvM
      rw [if_neg (by rw [hfr]; simp)] at h
      have hCM : mS M (sY S S.1) := hC0.yard ⟨hvM, by rw [hM.1 138 (by omega), hM.2 28 (by omega)]; exact hC0.1.2.1, by rw [h42]; exact hC0.1.2.2⟩ (fun j hj hs => by unfold z_scm at hs; exact hM.1 j (by omega)) (fun i hi hs => by unfold z_scs at hs; exact hM.2 i (by omega))
      exact h M (fun j hj => by rw [hM.1 j (by omega), hE j hj]) hCM
  · rw [(hC0.en (by omega)).1] at q2
    rw [if_neg (fun hh => hh.2 q2)] at h
    exact h N hE hC0
  · rw [if_neg (fun hh => q (by omega))] at h
    exact h N hE hC0
def f_inr (Y : zM) (x : Int) : List Int := (if Y 0 x = -1 then [] else [Y 0 x]) ++ (if Y 1 x = -1 then [] else [Y 1 x])
def o_inside (S : zS) (x : Int) : Int × zS := if 0 ≤ x ∧ x < S.1 13 0 then (((f_inr S.1 x).length : Int), sR S (f_inr S.1 x)) else (-1, S)
theorem C_inside (hd : 1 ≤ d) (hC : cS μ S) (hI : iS n S) (h : ∀ μ', zEc μ' μ → cS μ' (o_inside S x).2 → K (some (.inl (o_inside S x).1)) μ') : zCall g d 158 [.inr (.inr ((0, 11), 0)), .inl x] μ K := by
  have w := hI.env
  have ev := hC.env
  unfold o_inside at h
  rw [← ev.1] at h
  refine sX11_inside ⟨by omega, c_hasStall (fun q => zb1 (c_emptyR (fun M hM hr => zn ⟨by omega, ?_⟩))) (fun q => zb0 ?_)⟩
  · rw [if_pos q] at h
    have st := hC.st (e := x) (by omega)
    have fin : ∀ N, zE18 N M → cR N (f_inr S.1 x) → K (some (.inl (N 18 1))) N := fun N hN hr => by
      rw [hr.1]
      exact h N (fun j hj => by rw [hN j (by omega), hM j (by omega)]) (hC.row (fun j _ hj => by rw [hN j hj, hM j hj]) hr)
    rw [hM 21 (by omega), hM 22 (by omega), st.1, st.2]
    unfold f_inr at fin
    refine ⟨fun q2 => ⟨fun q3 => ?_, fun q3 => ?_⟩, fun q2 => c_tellR hr (by simp) (fun N hN hr2 => zn ?_)⟩
    · rw [if_pos q2, if_pos q3] at fin
      exact fin M (zE18.refl M) hr
    · rw [if_pos q2, if_neg q3] at fin
      exact c_tellR hr (by simp) (fun N hN hr2 => zn (fin N hN hr2))
    · rw [if_neg q2] at fin
      rw [hN 22 (by omega), hM 22 (by omega), st.2]
      refine ⟨fun q3 => ?_, fun q3 => ?_⟩
      · rw [if_pos q3] at fin
        exact fin N hN hr2
      · rw [if_neg q3] at fin
        exact c_tellR hr2 (by simp) (fun P hP hr3 => zn (fin P (hP.trans hN) hr3))
  · rw [if_neg q] at h
    exact h μ (zEc.refl μ) hC
theorem M_inside (hd : 2 ≤ d) (hC : mS μ S) (hI : iS n S) (h : ∀ μ', zEd μ' μ → mS μ' (o_inside S x).2 → K (some (.inl (o_inside S x).1)) μ') : zCall g d 280 [.inr (.inr ((0, 12), 119)), .inl x] μ K := by
  have w := hI.env
  have hC0 : mS (zU μ 119 33 0) S := hC.thr
  have hE : zEd (zU μ 119 33 0) μ := (zEd.refl μ).u (by omega)
  refine sX12_inside ⟨by omega, ?_⟩
  generalize zU μ 119 33 0 = N at *
  have ev := hC0.env
  unfold o_inside at h
  rw [← ev.1] at h
  refine m_isStall (by omega) (by omega) (fun q => zb1 ⟨by omega, ?_⟩) (fun q => zb0 ?_)
  · rw [if_pos q] at h
    have st := hC0.st (e := x) (by omega)
    have fin : ∀ M, zE32 M N → mR M (f_inr S.1 x) → K (some (.inl (M 119 32))) M := fun M hM hr => by
      rw [hr.1]
      exact h M (fun j hj => by rw [hM.1 j (by omega), hE j hj]) (hC0.row (fun j _ hj => hM.1 j hj) (fun i _ hi => hM.2 i hi) hr)
    rw [st.1, st.2]
    unfold f_inr at fin
    refine ⟨fun q2 => ⟨fun q3 => ?_, fun q3 => ?_⟩, fun q2 => m_tellR mR_0 (by simp) (fun M hM hr2 => zn ?_)⟩
    · rw [if_pos q2, if_pos q3] at fin
      have := fin (zU N 119 32 0) zE32_0 mR_0
      rw [zU_eq] at this
      exact this
    · rw [if_pos q2, if_neg q3] at fin
      exact m_tellR mR_0 (by simp) (fun M hM hr2 => zn (fin M (hM.trans zE32_0) hr2))
    · rw [if_neg q2] at fin
      rw [hM.1 124 (by omega), zU_off 124 (by omega), st.2]
      refine ⟨fun q3 => ?_, fun q3 => ?_⟩
      · rw [if_pos q3] at fin
        exact fin M (hM.trans zE32_0) hr2
      · rw [if_neg q3] at fin
        exact m_tellR hr2 (by simp) (fun P hP hr3 => zn (fin P (hP.trans (hM.trans zE32_0)) hr3))
  · rw [if_neg q] at h
    exact h N hE hC0
end
