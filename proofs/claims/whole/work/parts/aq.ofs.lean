-- needs ap
/-! of, row: what they answer where they answer; both sides -/
def of_ok (S : zS) (e k : Int) : Prop := (0 ≤ e ∧ e < S.1 13 3) ∧ 0 ≤ k ∧ k ≤ 6
def of_v (S : zS) (e k : Int) : Int := if k = 0 then f_point S.1 e else if k = 1 then zB (f_atb S.1 e) else if k = 2 then S.1 10 e else if k = 3 then S.1 3 e else if k = 4 then zB (f_steam S.1 e (S.1 5 1)) else if k = 5 then (if f_ahead S.1 e = -1 then 0 else 1) else zB (f_hooded S.1 e)
def row_ok (S : zS) (x : Int) : Prop := 0 ≤ x ∧ x < (S.2.2.1.length : Int)
def row_v (S : zS) (x : Int) : Int := S.2.2.1.getD x.toNat 0
theorem sX11_of {g : zG} {d : Nat} {K : Option zV → zM → Prop} {μ : zM} {x1 : Int} {x2 : Int} (h : (0 < d) ∧ zCall g (d - 1) 31 [.inr (.inr ((0, 3), 5)), .inl x1] μ (zBz (fun μ1 => (x2 < 0 ∨ 6 < x2 → zT g d mX11_of K 181 [none, none, none] [] μ1) ∧ (x2 = 0 → (zCall g (d - 1) 92 [.inr (.inr ((0, 10), 25)), .inr (.inr ((0, 7), 20)), .inl x1] μ1 (zIi fun r3 μ2 => K (some (.inl r3)) μ2))) ∧ (x2 = 1 → (zCall g (d - 1) 60 [.inr (.inr ((0, 7), 20)), .inl x1] μ1 (zBz (fun μ4 => K (some (.inl 1)) μ4) (fun μ4 => K (some (.inl 0)) μ4)))) ∧ (x2 = 2 → ((0 ≤ x1 ∧ x1 < 12) ∧ K (some (.inl (μ1 7 x1))) μ1)) ∧ (x2 = 3 → ((0 ≤ x1 ∧ x1 < 12) ∧ K (some (.inl (μ1 24 x1))) μ1)) ∧ (x2 = 4 → (zCall g (d - 1) 95 [.inr (.inr ((0, 10), 25)), .inr (.inr ((0, 7), 20)), .inl x1, .inl (μ1 20 1)] μ1 (zBz (fun μ5 => K (some (.inl 1)) μ5) (fun μ5 => K (some (.inl 0)) μ5)))) ∧ (x2 = 5 → (zCall g (d - 1) 61 [.inr (.inr ((0, 7), 20)), .inl x1] μ1 (zIi fun r7 μ6 => (r7 = (-1) → K (some (.inl 0)) μ6) ∧ (¬ r7 = (-1) → K (some (.inl 1)) μ6)))) ∧ (x2 = 6 → (zCall g (d - 1) 97 [.inr (.inr ((0, 10), 25)), .inr (.inr ((0, 7), 20)), .inl x1] μ1 (zBz (fun μ8 => K (some (.inl 1)) μ8) (fun μ8 => K (some (.inl 0)) μ8))))) (fun μ1 => zT g d mX11_of K 11 [none, none, none] [] μ1))) : zCall g d 121 [.inr (.inr ((0, 11), 0)), .inl x1, .inl x2] μ K := zcX11_of [(11, []), (181, [])] 999 rfl (fun _ _ => And.intro h.1 (zC_B (fun μ1 h0 => And.intro (fun _ => And.intro (fun q1 => (h0.1 q1)) (And.intro (fun q1 => And.intro h.1 (zC_I (fun r3 μ2 h2 => h2) (h0.2.1 q1))) (And.intro (fun q1 => And.intro h.1 (zC_B (fun μ4 h2 => And.intro (fun q => absurd q (show ¬ ((1 : Int) = (0 : Int)) by decide)) (fun _ => h2)) (fun μ4 h2 => And.intro (fun _ => h2) (fun q => absurd q (show ¬ (¬ (0 : Int) = (0 : Int)) by decide))) (h0.2.2.1 q1))) (And.intro (fun q1 => (h0.2.2.2.1 q1)) (And.intro (fun q1 => (h0.2.2.2.2.1 q1)) (And.intro (fun q1 => And.intro h.1 (zC_B (fun μ5 h2 => And.intro (fun q => absurd q (show ¬ ((1 : Int) = (0 : Int)) by decide)) (fun _ => h2)) (fun μ5 h2 => And.intro (fun _ => h2) (fun q => absurd q (show ¬ (¬ (0 : Int) = (0 : Int)) by decide))) (h0.2.2.2.2.2.1 q1))) (And.intro (fun q1 => And.intro h.1 (zC_I (fun r7 μ6 h2 => h2) (h0.2.2.2.2.2.2.1 q1))) (And.intro (fun q1 => And.intro h.1 (zC_B (fun μ8 h2 => And.intro (fun q => absurd q (show ¬ ((1 : Int) = (0 : Int)) by decide)) (fun _ => h2)) (fun μ8 h2 => And.intro (fun _ => h2) (fun q => absurd q (show ¬ (¬ (0 : Int) = (0 : Int)) by decide))) (h0.2.2.2.2.2.2.2 q1))) (trivial))))))))) (fun q => absurd q (show ¬ ((1 : Int) = (0 : Int)) by decide))) (fun μ1 h0 => And.intro (fun q => absurd q (show ¬ (¬ (0 : Int) = (0 : Int)) by decide)) (fun _ => h0)) h.2))
theorem sX11_row {g : zG} {d : Nat} {K : Option zV → zM → Prop} {μ : zM} {x1 : Int} (h : (x1 < 0 → zT g d mX11_row K 15 [none, none] [] μ) ∧ (0 ≤ x1 → ((x1 < (μ 18 1) → ((0 ≤ x1 ∧ x1 < 12) ∧ K (some (.inl (μ 19 x1))) μ)) ∧ ((μ 18 1) ≤ x1 → zT g d mX11_row K 15 [none, none] [] μ)))) : zCall g d 159 [.inr (.inr ((0, 11), 0)), .inl x1] μ K := zcX11_row [(15, [])] 999 rfl (fun _ _ => h)
theorem zli_at {f : Int → Int} {l : List Int} {x : Int} (h : zli f l) (hx : 0 ≤ x ∧ x < (l.length : Int)) : f x = l.getD x.toNat 0 := by
  have lt : x.toNat < l.length := by omega
  have := h x.toNat (l.getD x.toNat 0) (by rw [List.getD_eq_getElem?_getD, List.getElem?_eq_getElem lt]; rfl)
  rw [show ((x.toNat : Nat) : Int) = x from by omega] at this
  exact this
section
variable {g : zG} {d : Nat} {K : Option zV → zM → Prop} {μ : zM} {nn e k x : Int} {S : zS}
theorem M_of (hd : 10 ≤ d) (hC : mS μ S) (hI : iS nn S) (h1 : of_ok S e k → ∀ μ', zEd μ' μ → mS μ' S → μ' 119 33 = 0 → K (some (.inl (of_v S e k))) μ') (h0 : ¬ of_ok S e k → ∀ μ', zEd μ' μ → mS μ' S → μ' 119 33 = 1 → K (some (.inl 0)) μ') : zCall g d 202 [.inr (.inr ((0, 12), 119)), .inl e, .inl k] μ K := by
  have w := hI.env
  have hC0 : mS (zU μ 119 33 0) S := hC.thr
  have hE : zEd (zU μ 119 33 0) μ := (zEd.refl μ).u (by omega)
  have e33 : zU μ 119 33 0 119 33 = 0 := zU_eq
  refine sX12_of ⟨by omega, ?_⟩
  generalize zU μ 119 33 0 = N at *
  have lost : ¬ of_ok S e k → zCall g (d - 1) 162 [.inr (.inr ((0, 12), 119))] N (zIi fun r μ' => K (some (.inl r)) μ') := fun no => sX12_lost (zi (h0 no _ (hE.u (by omega)) hC0.thr zU_eq))
  have ev := hC0.env
  have hW := hC0.W hI
  have v : vM N (S.1 14) (S.1 15 0) = S.1 := hC0.1.1
  refine m_isEngine (by omega) (by omega) (fun q => zb1 (m_in (fun q2 => zb1 ?_) (fun q2 => zb0 (lost (fun hh => q2 hh.2))))) (fun q => zb0 (lost (fun hh => q (by rw [ev.2.2.2.1]; exact hh.1))))
  have qe : 0 ≤ e ∧ e < S.1 13 3 := by omega
  have h2 := h1 ⟨qe, q2⟩ N hE hC0 e33
  have en := hC0.en (e := e) (by omega)
  have we := (hI.W.2.2.2 e (by omega)).2.1
  unfold of_v at h2
  refine ⟨fun q3 => ?_, fun q3 => ?_, fun q3 => ?_, fun q3 => ?_, fun q3 => ?_, fun q3 => ?_, fun q3 => ?_⟩
  · rw [if_neg (by omega), if_neg (by omega), if_neg (by omega), if_neg (by omega), if_neg (by omega), if_neg (by omega)] at h2
    exact m_hooded (co := S.1 14) (cn := S.1 15 0) (by omega) hW (by omega) (fun z => zb1 (k_one h2 (by rw [v] at z; exact z))) (fun z => zb0 (k_zero h2 (by rw [v] at z; exact z)))
  · rw [if_pos q3] at h2
    refine m_pointOf (co := S.1 14) (cn := S.1 15 0) (by omega) (zi ?_)
    rw [v]
    exact h2
  · rw [if_neg (by omega), if_pos q3] at h2
    have key : (¬ N 130 e = -1 ∧ N 123 (N 130 e) = e) ↔ f_atb S.1 e = true := by
      unfold f_atb
      rw [decide_eq_true_eq, en.1]
      by_cases z : S.1 2 e = -1
      · exact ⟨fun hh => absurd z hh.1, fun hh => absurd z hh.1⟩
      · rw [(hC0.st (e := S.1 2 e) (by omega)).1]
    refine m_atBack (by omega) (by rw [en.1]; omega) (fun z => zb1 (k_one h2 (key.1 z))) (fun z => zb0 (k_zero h2 ?_))
    cases hb : f_atb S.1 e
    · rfl
    · exact absurd (key.2 hb) z
  · rw [if_neg (by omega), if_neg (by omega), if_pos q3] at h2
    exact ⟨by omega, by rw [en.2.2.2.1]; exact h2⟩
  · rw [if_neg (by omega), if_neg (by omega), if_neg (by omega), if_pos q3] at h2
    exact ⟨by omega, by rw [en.2.1]; exact h2⟩
  · rw [if_neg (by omega), if_neg (by omega), if_neg (by omega), if_neg (by omega), if_pos q3] at h2
    exact m_steaming (co := S.1 14) (cn := S.1 15 0) hW (by omega) (fun z => zb1 (k_one h2 (by rw [v, ev.2.2.2.2.2] at z; exact z))) (fun z => zb0 (k_zero h2 (by rw [v, ev.2.2.2.2.2] at z; exact z)))
  · rw [if_neg (by omega), if_neg (by omega), if_neg (by omega), if_neg (by omega), if_neg (by omega), if_pos q3] at h2
    refine m_ahead (co := S.1 14) (cn := S.1 15 0) (by omega) (by omega) (by rw [en.1]; omega) (zi ?_)
    rw [v]
    exact ⟨fun z => by rw [if_neg z] at h2; exact h2, fun z => by rw [if_pos z] at h2; exact h2⟩
theorem C_of (hd : 10 ≤ d) (hC : cS μ S) (hI : iS nn S) (ok : of_ok S e k) (h : K (some (.inl (of_v S e k))) μ) : zCall g d 121 [.inr (.inr ((0, 11), 0)), .inl e, .inl k] μ K := by
  have w := hI.env
  have ev := hC.env
  have hW := hC.W hI
  have v : vC μ 20 = S.1 := hC.1.1
  obtain ⟨qe, qk⟩ := ok
  have en := hC.en (e := e) (by omega)
  have we := (hI.W.2.2.2 e (by omega)).2.1
  unfold of_v at h
  refine sX11_of ⟨by omega, c_has (fun q => zb1 ⟨fun z => by omega, fun q3 => ?_, fun q3 => ?_, fun q3 => ?_, fun q3 => ?_, fun q3 => ?_, fun q3 => ?_, fun q3 => ?_⟩) (fun q => absurd qe (by omega))⟩
  · rw [if_pos q3] at h
    refine c_pointOf (s := 20) (by omega) (by omega) (zi ?_)
    rw [v]
    exact h
  · rw [if_neg (by omega), if_pos q3] at h
    have key : (¬ μ 23 e = -1 ∧ μ 21 (μ 23 e) = e) ↔ f_atb S.1 e = true := by
      unfold f_atb
      rw [decide_eq_true_eq, en.1]
      by_cases z : S.1 2 e = -1
      · exact ⟨fun hh => absurd z hh.1, fun hh => absurd z hh.1⟩
      · rw [(hC.st (e := S.1 2 e) (by omega)).1]
    refine c_atBack (s := 20) (by omega) (by show -1 ≤ μ 23 e ∧ μ 23 e < 23; rw [en.1]; omega) (fun z => zb1 (k_one h (key.1 z))) (fun z => zb0 (k_zero h ?_))
    cases hb : f_atb S.1 e
    · rfl
    · exact absurd (key.2 hb) z
  · rw [if_neg (by omega), if_neg (by omega), if_pos q3] at h
    exact ⟨by omega, by rw [en.2.2.2.1]; exact h⟩
  · rw [if_neg (by omega), if_neg (by omega), if_neg (by omega), if_pos q3] at h
    exact ⟨by omega, by rw [en.2.1]; exact h⟩
  · rw [if_neg (by omega), if_neg (by omega), if_neg (by omega), if_neg (by omega), if_pos q3] at h
    have now := hI.now
    exact c_inSteam (s := 20) hW (by omega) (by omega) (fun z => zb1 (k_one h (by rw [v, ev.2.2.2.2.2] at z; exact z))) (fun z => zb0 (k_zero h (by rw [v, ev.2.2.2.2.2] at z; exact z)))
  · rw [if_neg (by omega), if_neg (by omega), if_neg (by omega), if_neg (by omega), if_neg (by omega), if_pos q3] at h
    refine c_inFrontOf (s := 20) (by omega) (by omega) (by show -1 ≤ μ 23 e ∧ μ 23 e < 23; rw [en.1]; omega) (zi ?_)
    rw [v]
    exact ⟨fun z => by rw [if_pos z] at h; exact h, fun z => by rw [if_neg z] at h; exact h⟩
  · rw [if_neg (by omega), if_neg (by omega), if_neg (by omega), if_neg (by omega), if_neg (by omega), if_neg (by omega)] at h
    exact c_isHooded (s := 20) (by omega) hW (by omega) (fun z => zb1 (k_one h (by rw [v] at z; exact z))) (fun z => zb0 (k_zero h (by rw [v] at z; exact z)))
theorem M_row (hd : 10 ≤ d) (hC : mS μ S) (hI : iS nn S) (h1 : row_ok S x → ∀ μ', zEd μ' μ → mS μ' S → μ' 119 33 = 0 → K (some (.inl (row_v S x))) μ') (h0 : ¬ row_ok S x → ∀ μ', zEd μ' μ → mS μ' S → μ' 119 33 = 1 → K (some (.inl 0)) μ') : zCall g d 281 [.inr (.inr ((0, 12), 119)), .inl x] μ K := by
  have r12 := hI.2.2.2.1
  have hr : mR μ S.2.2.1 := hC.2.2.1
  have hC0 : mS (zU μ 119 33 0) S := hC.thr
  have hE : zEd (zU μ 119 33 0) μ := (zEd.refl μ).u (by omega)
  have e33 : zU μ 119 33 0 119 33 = 0 := zU_eq
  refine sX12_row ⟨by omega, ?_⟩
  rw [hr.1, zwi (x := (S.2.2.1.length : Int) - 1) (by omega) (by omega)]
  generalize zU μ 119 33 0 = N at *
  refine m_in (fun q => zb1 ⟨by omega, ?_⟩) (fun q => zb0 (sX12_lost (zi (h0 (fun hh => q (by have := hh.1; have := hh.2; omega)) _ (hE.u (by omega)) hC0.thr zU_eq))))
  have ok : row_ok S x := by unfold row_ok; omega
  have := h1 ok N hE hC0 e33
  unfold row_v at this
  rw [zli_at hC0.2.2.1.2 ok]
  exact this
theorem C_row (hC : cS μ S) (hI : iS nn S) (ok : row_ok S x) (h : K (some (.inl (row_v S x))) μ) : zCall g d 159 [.inr (.inr ((0, 11), 0)), .inl x] μ K := by
  have r12 := hI.2.2.2.1
  have hr : cR μ S.2.2.1 := hC.2.2.1
  have o1 := ok.1
  have o2 := ok.2
  refine sX11_row ⟨fun z => by omega, fun _ => ⟨fun _ => ⟨by omega, ?_⟩, fun z => by rw [hr.1] at z; omega⟩⟩
  rw [zli_at hr.2 ok]
  exact h
end
