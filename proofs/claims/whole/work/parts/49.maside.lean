-- needs 20.walks 30 31 32 33 34 35 36 37 38 39 40 41 42 43 44 45 46 47 48 21.s06 21.s07 21.s08
/-! the reference frees one: the loop over places aside -/
section
variable {g : zG} {d : Nat} {K : Option zV → zM → Prop} {μ : zM} {co : Int → Int} {cn e a b x y p t : Int}
theorem zw_suc {i : Nat} (h : i < 1000000) : zw ((i : Int) + 1) = ((i + 1 : Nat) : Int) := by
  rw [zwi (by omega) (by omega)]
  omega
/-- one place looked at -/
theorem m_aside1 {Y : zM} {f : Int} {i : Nat} {best : Int} {M : zM} (hd : 320 ≤ d) (hW : y_W Y) (hR : zRu (M 138) (M 119 28) co cn) (he : 0 ≤ e ∧ e < 12) (qa : ¬ f_ahead Y e = -1) (hv : vM M co cn = Y) (hi : (i : Int) ≤ Y 13 0) (h43 : M 119 43 = f) (hb : ¬ f = -1 → best = f_pc Y e f)
    (take : f_side Y e i = true → (f = -1 ∨ f_steps (Y 13 0) (Y 2 e) i < f_steps (Y 13 0) (Y 2 e) f) → ∀ (N : zM) (v : Int), zEm N M → v = f_pc Y e i → zT g d mX12_freeNow K 49 [some (.inr (.inr ((0, 12), 119))), some (.inl e), some (.inl (f_ahead Y e)), some (.inl v), some (.inl ((i + 1 : Nat) : Int)), none] [] (zU N 119 43 (i : Int)))
    (keep : ¬ (f_side Y e i = true ∧ (f = -1 ∨ f_steps (Y 13 0) (Y 2 e) i < f_steps (Y 13 0) (Y 2 e) f)) → ∀ N : zM, zEm N M → zT g d mX12_freeNow K 49 [some (.inr (.inr ((0, 12), 119))), some (.inl e), some (.inl (f_ahead Y e)), some (.inl best), some (.inl ((i + 1 : Nat) : Int)), none] [] N) :
    zT g d mX12_freeNow K 49 [some (.inr (.inr ((0, 12), 119))), some (.inl e), some (.inl (f_ahead Y e)), some (.inl best), some (.inl (i : Int)), none] [] M := by
  have fb := f_ahead_b hW he qa
  have w := hW.1
  have wt := hW.2.1
  have hf12 : 0 ≤ f_ahead Y e ∧ f_ahead Y e < 12 := by omega
  have heY : e < Y 13 3 := by
    rcases Int.lt_or_le e (Y 13 3) with z | z
    · exact z
    · exact absurd ((hW.2.2.2 e he).2.2.2 z).1 fb.2.2.1
  have e6 : ∀ N, vM N co cn = Y → N 119 6 = Y 13 3 := by
    rintro N rfl
    rfl
  have e13 : ∀ N, vM N co cn = Y → N 119 0 = Y 13 0 ∧ N 119 16 = Y 13 1 ∧ N 119 17 = Y 13 2 ∧ N 130 e = Y 2 e := by
    intro N hN
    have h6 := e6 N hN
    subst hN
    refine ⟨by simp [vM], by simp [vM], by simp [vM], (y_in ⟨he.1, by rw [h6]; exact heY⟩).symm⟩
  have M0 := (e13 M hv).1
  have ib : 0 ≤ (i : Int) ∧ (i : Int) ≤ Y 13 0 := by omega
  have c1 : ¬ M 119 0 < (i : Int) := by omega
  have d1 : 0 < d := by omega
  have d2 : 312 ≤ d - 1 := by omega
  have d3 : 2 ≤ d - 1 := by omega
  have d4 : 1 ≤ d - 1 := by omega
  have WM : y_W (vM M co cn) := by rw [hv]; exact hW
  have iM : 0 ≤ (i : Int) ∧ (i : Int) ≤ M 119 0 := by omega
  refine sX12_freeNow_49 ⟨fun q => absurd q c1, fun q => ⟨d1, m_canBe (co := co) (cn := cn) d2 WM hR (by rw [e6 M hv]; exact fb.1) iM (fun N hN qs => zb1 ?_) (fun N hN qs => zb0 ?_)⟩⟩
  · rw [hv, f_can_side hW he qa] at qs
    have hvN : vM N co cn = Y := by rw [hN.v, hv]
    obtain ⟨N0, N16, N17, N130⟩ := e13 N hvN
    have N43 : N 119 43 = f := by rw [hN.2 43 (by omega), h43]
    have WN : y_W (vM N co cn) := by rw [hvN]; exact hW
    have iN : 0 ≤ (i : Int) ∧ (i : Int) ≤ N 119 0 := by omega
    have b0 : 0 ≤ N 119 0 ∧ N 119 0 ≤ 23 := by omega
    have bi : 0 ≤ (i : Int) ∧ (i : Int) ≤ 23 := by omega
    have b2 : 0 ≤ Y 2 e ∧ Y 2 e ≤ 23 := by omega
    refine m_cost (co := co) (cn := cn) d3 WN (by rw [e6 N hvN]; exact fb.1) iN (zi ⟨he, ?_⟩)
    rw [hvN, N130]
    refine m_steps d4 b0 bi b2 (zi ?_)
    rw [N130]
    refine m_steps d4 b0 b2 b0 (zi ?_)
    have hfp : f_point Y (f_ahead Y e) = Y 2 e := by rw [f_point_eq (by rw [fb.2.1]; exact fb.2.2.1), fb.2.1]
    have hv1 : zw (zw (f_min Y (f_point Y (f_ahead Y e)) i + zw (N 119 16 * zw (f_steps (N 119 0) i (Y 2 e) + f_steps (N 119 0) (Y 2 e) (N 119 0)))) + zw (2 * N 119 17)) = f_pc Y e i := by
      rw [hfp, N0, N16, N17, f_steps_c (a := (i : Int)) (b := Y 2 e)]
      exact z_pc (f_steps_b (by omega) (by omega) (by omega)) (f_steps_b (by omega) (by omega) ib) (f_steps_b (by omega) (by omega) (by omega)) (by omega) (by omega)
    generalize zw (zw (f_min Y (f_point Y (f_ahead Y e)) i + zw (N 119 16 * zw (f_steps (N 119 0) i (Y 2 e) + f_steps (N 119 0) (Y 2 e) (N 119 0)))) + zw (2 * N 119 17)) = v at *
    rw [zw_suc (by omega), N43]
    refine ⟨fun q2 => take qs (Or.inl q2) N v hN hv1, fun q2 => ⟨fun q3 => take qs (Or.inr ?_) N v hN hv1, fun q3 => keep ?_ N hN⟩⟩
    · rw [hb q2, hv1] at q3
      exact (f_pc_lt (by omega)).1 q3
    · rw [hb q2, hv1] at q3
      rintro ⟨_, hc | hc⟩
      · exact q2 hc
      · exact absurd ((f_pc_lt (p := (i : Int)) (p' := f) (e := e) (Y := Y) (by omega)).2 hc) (Int.not_lt.mpr q3)
  · rw [hv, f_can_side hW he qa] at qs
    rw [zw_suc (by omega)]
    exact keep (fun h => by rw [qs] at h; cases h.1) N hN
/-- the loop over places aside -/
theorem m_aside {Y : zM} {F : Nat → Int} (hd : 320 ≤ d) (hW : y_W Y) (hR : zRu (μ 138) (μ 119 28) co cn) (he : 0 ≤ e ∧ e < 12) (qa : ¬ f_ahead Y e = -1) (hv0 : vM μ co cn = Y)
    (hFs : ∀ i : Nat, F (i + 1) = if f_side Y e i = true ∧ (F i = -1 ∨ f_steps (Y 13 0) (Y 2 e) i < f_steps (Y 13 0) (Y 2 e) (F i)) then (i : Int) else F i)
    (fin : ∀ (best : Int) (i : Nat) (M : zM), (i : Int) = Y 13 0 + 1 → zEw M μ → vM M co cn = Y → M 119 42 = μ 119 42 → M 141 = μ 141 → M 119 43 = F i → zT g d mX12_freeNow K 49 [some (.inr (.inr ((0, 12), 119))), some (.inl e), some (.inl (f_ahead Y e)), some (.inl best), some (.inl (i : Int)), none] [] M) :
    ∀ (k : Nat) (i : Nat) (best : Int) (M : zM), (i : Int) + k = Y 13 0 + 1 → zEw M μ → vM M co cn = Y → M 119 42 = μ 119 42 → M 141 = μ 141 → M 119 43 = F i → (¬ F i = -1 → best = f_pc Y e (F i)) → zT g d mX12_freeNow K 49 [some (.inr (.inr ((0, 12), 119))), some (.inl e), some (.inl (f_ahead Y e)), some (.inl best), some (.inl (i : Int)), none] [] M := by
  intro k
  induction k with
  | zero => intro i best M hi hE hv h42 h141 h43 hb; exact fin best i M (by omega) hE hv h42 h141 h43
  | succ k ih =>
    intro i best M hi hE hv h42 h141 h43 hb
    have hk' : ((i + 1 : Nat) : Int) + k = Y 13 0 + 1 := by omega
    have hi' : (i : Int) ≤ Y 13 0 := by omega
    refine m_aside1 hd hW (zRu_w hE hR) he qa hv hi' h43 hb (fun qs hc N v hN hv1 => ?_) (fun hn N hN => ?_)
    · have ht : F (i + 1) = i := by rw [hFs i, if_pos ⟨qs, hc⟩]
      have EN : zEw N μ := (zEw.m hN).trans hE
      refine ih (i + 1) v _ hk' (EN.s (by omega)) ?_ ?_ ?_ ?_ (fun _ => ?_)
      · rw [mUs (by omega), hN.v, hv]
      · rw [zU_ne (by omega), hN.2 42 (by omega), h42]
      · rw [zU_off _ (by omega), hN.1 141 (by omega), h141]
      · rw [zU_eq, ht]
      · rw [ht]; exact hv1
    · have ht : F (i + 1) = F i := by rw [hFs i, if_neg hn]
      refine ih (i + 1) best N hk' ((zEw.m hN).trans hE) ?_ ?_ ?_ ?_ (fun hq => ?_)
      · rw [hN.v, hv]
      · rw [hN.2 42 (by omega), h42]
      · rw [hN.1 141 (by omega), h141]
      · rw [hN.2 43 (by omega), h43, ht]
      · rw [ht] at hq ⊢; exact hb hq
end
