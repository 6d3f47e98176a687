-- needs 20.walks 30 31 32 33 34 35 36 37 38 39 40 41 42 43 44 45 46 47 21.s06 21.s07 21.s08
/-! the reference frees one -/
/-- what freeing changes -/
def zEw (μ' μ : zM) : Prop := (∀ j, ¬ (j = 119 ∨ j = 123 ∨ j = 124 ∨ j = 130 ∨ j = 141) → μ' j = μ j) ∧ ∀ i, ¬ (i = 14 ∨ i = 15 ∨ (34 ≤ i ∧ i ≤ 40) ∨ (42 ≤ i ∧ i ≤ 45)) → μ' 119 i = μ 119 i
theorem zEw.refl (μ : zM) : zEw μ μ := ⟨fun _ _ => rfl, fun _ _ => rfl⟩
theorem zEw.trans {a b c : zM} (h : zEw a b) (h' : zEw b c) : zEw a c := ⟨fun j hj => (h.1 j hj).trans (h'.1 j hj), fun i hi => (h.2 i hi).trans (h'.2 i hi)⟩
theorem zEw.m {a b : zM} (h : zEm a b) : zEw a b := ⟨fun j hj => h.1 j (by omega), fun i hi => h.2 i (by omega)⟩
theorem zEw.e {a b : zM} (h : zEv a b) : zEw a b := ⟨fun j hj => h.1 j (by omega), fun i hi => h.2 i (by omega)⟩
theorem zEw.s {a b : zM} {i v : Int} (h : zEw a b) (hi : 42 ≤ i ∧ i ≤ 45) : zEw (zU a 119 i v) b := ⟨fun j hj => by rw [zU_off j (by omega)]; exact h.1 j hj, fun k hk => by rw [zU_ne (by omega)]; exact h.2 k hk⟩
theorem zRu_w {μ μ' : zM} {co : Int → Int} {cn : Int} (h : zEw μ' μ) (hR : zRu (μ 138) (μ 119 28) co cn) : zRu (μ' 138) (μ' 119 28) co cn := by
  rw [h.1 138 (by omega), h.2 28 (by omega)]
  exact hR
/-- the moves by which one gets out -/
def f_mv (Y : zM) (e : Int) : List (zM × Int × Int × Int) := if f_ahead Y e = -1 then [(Y, e, Y 13 0, f_om Y e)] else [(f_bring Y (f_ahead Y e) (f_to Y e) (f_am Y e), e, Y 13 0, f_om Y e), (Y, f_ahead Y e, f_to Y e, f_am Y e)]
section
variable {g : zG} {d : Nat} {K : Option zV → zM → Prop} {μ : zM} {co : Int → Int} {cn e a b x y p t : Int}
theorem f_steps_c {n : Int} : f_steps n a b = f_steps n b a := by unfold f_steps; omega
theorem f_can_side {Y : zM} (h : y_W Y) (he : 0 ≤ e ∧ e < 12) (ha : ¬ f_ahead Y e = -1) : f_can Y (f_ahead Y e) p = f_side Y e p := by
  have b := f_ahead_b h he ha
  have fa := f_ahead_front h he ha
  unfold f_can f_side
  rw [fa, f_point_eq (by rw [b.2.1]; exact b.2.2.1), b.2.1]
  simp
/-- the moves, as the pile has them -/
theorem h_mv {P : Int → Int} {h : Int} {Y : zM} (hW : y_W Y) (he : 0 ≤ e ∧ e < Y 13 3) (hin : ¬ Y 2 e = -1) (hf : f_frees Y e = true) (hn : Y 5 1 ≤ 399000)
    (h0 : f_ahead Y e = -1 → P (h - 4) = e ∧ P (h - 3) = f_point Y e ∧ P (h - 2) = Y 5 0 ∧ P (h - 1) = f_om Y e)
    (h1 : ¬ f_ahead Y e = -1 → (P (h - 4) = e ∧ P (h - 3) = f_point (f_bring Y (f_ahead Y e) (f_to Y e) (f_am Y e)) e ∧ P (h - 2) = f_to Y e ∧ P (h - 1) = f_om Y e) ∧ (P (h - 8) = f_ahead Y e ∧ P (h - 7) = f_point Y (f_ahead Y e) ∧ P (h - 6) = Y 5 0 ∧ P (h - 5) = f_am Y e)) : h_ok P h (f_mv Y e) (f_free Y e) Y := by
  have w := hW.1
  have he' : 0 ≤ e ∧ e < 12 := by omega
  have w2 := (hW.2.2.2 e he').2.1
  have bo := f_om_b hW he' hin hf hn
  have ba := f_am_b hW he' hf
  unfold f_mv f_free
  by_cases ha : f_ahead Y e = -1
  · rw [if_pos ha, if_pos ha]
    simp only [h_ok]
    exact ⟨⟨trivial, hW, he, ha, Or.inl trivial, by rw [f_point_eq hin]; omega, by omega⟩, h0 ha, trivial⟩
  · rw [if_neg ha, if_neg ha]
    have b := f_ahead_b hW he' ha
    have b2 := f_to_b hW ha hf
    have W := w_aside hW he' ha hf hn
    have aa := f_aside_ahead (p := f_to Y e) (t := f_am Y e) hW he' ha b2.2.2.1
    obtain ⟨k1, k2⟩ := h1 ha
    simp only [h_ok]
    refine ⟨⟨trivial, W, by rw [f_bring_13]; exact he, aa.1, Or.inl (by rw [f_bring_13]), ?_, by omega⟩, ⟨k1.1, k1.2.1, by rw [f_bring_50]; exact k1.2.2.1, k1.2.2.2⟩, ⟨trivial, hW, b.1, f_ahead_front hW he' ha, b2.2.2.2, ?_, by omega⟩, ?_, trivial⟩
    · rw [f_point_eq (by rw [aa.2]; exact hin), aa.2]; omega
    · rw [f_point_eq (by rw [b.2.1]; exact hin), b.2.1]; exact b2.2.2.1
    · rw [show h - 4 - 4 = h - 8 from by omega, show h - 4 - 3 = h - 7 from by omega, show h - 4 - 2 = h - 6 from by omega, show h - 4 - 1 = h - 5 from by omega]
      exact k2
/-- the last move, from a state Z -/
theorem m_last {Y Z M : zM} (hd : 320 ≤ d) (hW : y_W Y) (he : 0 ≤ e ∧ e < Y 13 3) (hin : ¬ Y 2 e = -1) (hn : Y 5 1 ≤ 399000)
    (h1 : ∀ μ', zEw μ' μ → vM μ' co cn = f_free Y e → μ' 119 43 = f_to Y e → μ' 119 44 = f_am Y e → μ' 119 45 = f_om Y e → μ' 119 42 = μ 119 42 + 4 * (f_mv Y e).length → (∀ i, i < μ 119 42 → μ' 141 i = μ 141 i) → h_ok (μ' 141) (μ' 119 42) (f_mv Y e) (f_free Y e) Y → K (some (.inl 1)) μ')
    (hf : f_frees Y e = true) (hvM : vM M co cn = Z) (WZ : y_W Z) (z13 : Z 13 = Y 13) (za : f_ahead Z e = -1) (hom : f_om Y e = f_min Z (f_point Z e) (Y 13 0)) (hfin : f_bring Z e (Y 13 0) (f_om Y e) = f_free Y e) (hE : zEw M μ) (h42 : 0 ≤ M 119 42 ∧ M 119 42 ≤ 252) (hM0 : M 119 0 = Y 13 0) (hM6 : M 119 6 = Y 13 3) (h43 : M 119 43 = f_to Y e) (h44 : M 119 44 = f_am Y e) (hlen : M 119 42 + 4 = μ 119 42 + 4 * (f_mv Y e).length) (hP : ∀ i, i < μ 119 42 → M 141 i = μ 141 i)
    (hhist : ∀ P : Int → Int, (∀ i, i < M 119 42 → P i = M 141 i) → P (M 119 42) = e → P (M 119 42 + 1) = f_point Z e → P (M 119 42 + 2) = Z 5 0 → P (M 119 42 + 3) = f_om Y e → h_ok P (M 119 42 + 4) (f_mv Y e) (f_free Y e) Y) :
    zCall g (d - 1) 208 [.inr (.inr ((0, 12), 119)), .inl e, .inl (M 119 0)] M (zIi fun r2 μ1 => zCall g (d - 1) 212 [.inr (.inr ((0, 12), 119)), .inl e, .inl (μ1 119 0), .inl r2] (zU μ1 119 45 r2) (zNn fun μ3 => K (some (.inl 1)) μ3)) := by
  have w := hW.1
  have he' : 0 ≤ e ∧ e < 12 := by omega
  have bo := f_om_b hW he' hin hf hn
  refine m_cost (co := co) (cn := cn) (by omega) (by rw [hvM]; exact WZ) he' (by omega) (zi ?_)
  rw [hvM, hM0, ← hom]
  have ev2 : vM (zU M 119 45 (f_om Y e)) co cn = Z := by rw [mUs (by omega), hvM]
  have zo : ∀ i, ¬ i = 45 → zU M 119 45 (f_om Y e) 119 i = M 119 i := fun i hi => zU_ne (by omega)
  refine m_bring (co := co) (cn := cn) (by omega) (by rw [ev2]; exact WZ) (by rw [zo 6 (by omega), hM6]; exact he) (by rw [ev2]; exact za) (by rw [zo 0 (by omega), hM0]; omega) (by omega) (by rw [zo 42 (by omega)]; exact h42) (fun N hE2 hN42 hNP hNp hvN => zn ?_)
  rw [zo 42 (by omega)] at hN42 hNP hNp
  rw [ev2] at hNp hvN
  rw [zU_off 141 (by omega)] at hNP
  refine h1 N ?_ ?_ ?_ ?_ ?_ ?_ ?_ ?_
  · exact ((zEw.e hE2).trans ((zEw.refl _).s (by omega))).trans hE
  · rw [hvN]; exact hfin
  · rw [hE2.2 43 (by omega), zo 43 (by omega), h43]
  · rw [hE2.2 44 (by omega), zo 44 (by omega), h44]
  · rw [hE2.2 45 (by omega), zU_eq]
  · rw [hN42]; exact hlen
  · intro i hi
    have : (f_mv Y e).length ≥ 1 := by unfold f_mv; split <;> simp
    rw [hNP i (by omega), hP i hi]
  · rw [hN42]
    exact hhist (N 141) (fun i hi => hNP i (by omega)) hNp.1 hNp.2.1 hNp.2.2.1 hNp.2.2.2
/-- what a place aside costs: the nearer, the less -/
def f_pc (Y : zM) (e p : Int) : Int := Y 13 1 * (f_steps (Y 13 0) (Y 5 0) (Y 2 e) + f_steps (Y 13 0) (Y 2 e) p) + 2 * Y 13 2 + Y 13 1 * (f_steps (Y 13 0) (Y 2 e) p + f_steps (Y 13 0) (Y 2 e) (Y 13 0)) + 2 * Y 13 2
theorem z_pc {A S T T1 G : Int} (hA : 0 ≤ A ∧ A ≤ 12) (hS : 0 ≤ S ∧ S ≤ 12) (hT : 0 ≤ T ∧ T ≤ 12) (h1 : 1 ≤ T1 ∧ T1 ≤ 9) (hG : 0 ≤ G ∧ G ≤ 9) : zw (zw (T1 * (A + S) + 2 * G + zw (T1 * zw (S + T))) + zw (2 * G)) = T1 * (A + S) + 2 * G + T1 * (S + T) + 2 * G := by
  have m1 : 0 ≤ T1 * (A + S) ∧ T1 * (A + S) ≤ 9 * 24 := ⟨Int.mul_nonneg (by omega) (by omega), Int.mul_le_mul (by omega) (by omega) (by omega) (by omega)⟩
  have m2 : 0 ≤ T1 * (S + T) ∧ T1 * (S + T) ≤ 9 * 24 := ⟨Int.mul_nonneg (by omega) (by omega), Int.mul_le_mul (by omega) (by omega) (by omega) (by omega)⟩
  rw [zwi (x := S + T) (by omega) (by omega), zwi (x := T1 * (S + T)) (by omega) (by omega), zwi (x := T1 * (A + S) + 2 * G + T1 * (S + T)) (by omega) (by omega), zwi (x := 2 * G) (by omega) (by omega), zwi (x := T1 * (A + S) + 2 * G + T1 * (S + T) + 2 * G) (by omega) (by omega)]
theorem f_pc_lt {Y : zM} {p' : Int} (h1 : 1 ≤ Y 13 1) : f_pc Y e p < f_pc Y e p' ↔ f_steps (Y 13 0) (Y 2 e) p < f_steps (Y 13 0) (Y 2 e) p' := by
  unfold f_pc
  generalize f_steps (Y 13 0) (Y 2 e) p = S
  generalize f_steps (Y 13 0) (Y 2 e) p' = S'
  generalize f_steps (Y 13 0) (Y 5 0) (Y 2 e) = A
  generalize f_steps (Y 13 0) (Y 2 e) (Y 13 0) = T
  generalize Y 13 2 = G
  generalize Y 13 1 = T1 at *
  constructor
  · intro h
    by_cases q : S < S'
    · exact q
    · exfalso
      have m3 : T1 * (A + S') ≤ T1 * (A + S) := Int.mul_le_mul_of_nonneg_left (by omega) (by omega)
      have m4 : T1 * (S' + T) ≤ T1 * (S + T) := Int.mul_le_mul_of_nonneg_left (by omega) (by omega)
      omega
  · intro h
    have m3 : T1 * (A + S) ≤ T1 * (A + S' - 1) := Int.mul_le_mul_of_nonneg_left (by omega) (by omega)
    rw [Int.mul_sub, Int.mul_one] at m3
    have m4 : T1 * (S + T) ≤ T1 * (S' + T) := Int.mul_le_mul_of_nonneg_left (by omega) (by omega)
    omega
/-- the loop over places aside -/
theorem m_aside {Y : zM} {F : Nat → Int} (hd : 320 ≤ d) (hW : y_W Y) (hR : zRu (μ 138) (μ 119 28) co cn) (he : 0 ≤ e ∧ e < 12) (qa : ¬ f_ahead Y e = -1) (hv0 : vM μ co cn = Y)
    (hFs : ∀ i : Nat, F (i + 1) = if f_side Y e i = true ∧ (F i = -1 ∨ f_steps (Y 13 0) (Y 2 e) i < f_steps (Y 13 0) (Y 2 e) (F i)) then (i : Int) else F i)
    (fin : ∀ (best : Int) (i : Nat) (M : zM), (i : Int) = Y 13 0 + 1 → zEw M μ → vM M co cn = Y → M 119 42 = μ 119 42 → M 141 = μ 141 → M 119 43 = F i → zT g d mX12_freeNow K 49 [some (.inr (.inr ((0, 12), 119))), some (.inl e), some (.inl (f_ahead Y e)), some (.inl best), some (.inl (i : Int)), none] [] M) :
    ∀ (k : Nat) (i : Nat) (best : Int) (M : zM), (i : Int) + k = Y 13 0 + 1 → zEw M μ → vM M co cn = Y → M 119 42 = μ 119 42 → M 141 = μ 141 → M 119 43 = F i → (¬ F i = -1 → best = f_pc Y e (F i)) → zT g d mX12_freeNow K 49 [some (.inr (.inr ((0, 12), 119))), some (.inl e), some (.inl (f_ahead Y e)), some (.inl best), some (.inl (i : Int)), none] [] M := by
  have fb := f_ahead_b hW he qa
  have w := hW.1
  have wt := hW.2.1
  have hf12 : 0 ≤ f_ahead Y e ∧ f_ahead Y e < 12 := by omega
  intro k
  induction k with
  | zero => intro i best M hi hE hv h42 h141 h43 hb; exact fin best i M (by omega) hE hv h42 h141 h43
  | succ k ih =>
    intro i best M hi hE hv h42 h141 h43 hb
    have e13 : ∀ N, vM N co cn = Y → N 119 0 = Y 13 0 ∧ N 119 16 = Y 13 1 ∧ N 119 17 = Y 13 2 ∧ N 130 e = Y 2 e := by
      rintro N rfl
      refine ⟨by simp [vM], by simp [vM], by simp [vM], (y_in he).symm⟩
    have M0 := (e13 M hv).1
    have ib : 0 ≤ (i : Int) ∧ (i : Int) ≤ Y 13 0 := by omega
    have z1 : zw ((i : Int) + 1) = ((i + 1 : Nat) : Int) := by rw [zwi (by omega) (by omega)]; omega
    have hti := hFs i
    have hk' : ((i + 1 : Nat) : Int) + k = Y 13 0 + 1 := by omega
    refine sX12_freeNow_49 ⟨fun q => absurd q (by omega), fun q => ⟨by omega, m_canBe (co := co) (cn := cn) (by omega) (by rw [hv]; exact hW) (zRu_w hE hR) hf12 (by omega) (fun N hN qs => zb1 ?_) (fun N hN qs => zb0 ?_)⟩⟩
    · rw [hv, f_can_side hW he qa] at qs
      have EN : zEw N μ := (zEw.m hN).trans hE
      have hvN : vM N co cn = Y := by rw [hN.v, hv]
      obtain ⟨N0, N16, N17, N130⟩ := e13 N hvN
      have N43 : N 119 43 = F i := by rw [hN.2 43 (by omega), h43]
      have N42 : N 119 42 = μ 119 42 := by rw [hN.2 42 (by omega), h42]
      have N141 : N 141 = μ 141 := by rw [hN.1 141 (by omega), h141]
      refine m_cost (co := co) (cn := cn) (by omega) (by rw [hvN]; exact hW) hf12 (by omega) (zi ⟨he, ?_⟩)
      rw [hvN, N130]
      refine m_steps (by omega) (by omega) (by omega) (by omega) (zi ?_)
      rw [N130]
      refine m_steps (by omega) (by omega) (by omega) (by omega) (zi ?_)
      rw [N16, N17, N0]
      have hfp : f_point Y (f_ahead Y e) = Y 2 e := by rw [f_point_eq (by rw [fb.2.1]; exact fb.2.2.1), fb.2.1]
      have hcost : f_min Y (f_point Y (f_ahead Y e)) i = Y 13 1 * (f_steps (Y 13 0) (Y 5 0) (Y 2 e) + f_steps (Y 13 0) (Y 2 e) i) + 2 * Y 13 2 := by rw [hfp]; rfl
      rw [hcost, f_steps_c (a := (i : Int)) (b := Y 2 e), z_pc (f_steps_b (by omega) (by omega) (by omega)) (f_steps_b (by omega) (by omega) ib) (f_steps_b (by omega) (by omega) (by omega)) (by omega) (by omega), z1, N43]
      have take : (F i = -1 ∨ f_steps (Y 13 0) (Y 2 e) i < f_steps (Y 13 0) (Y 2 e) (F i)) → zT g d mX12_freeNow K 49 [some (.inr (.inr ((0, 12), 119))), some (.inl e), some (.inl (f_ahead Y e)), some (.inl (f_pc Y e i)), some (.inl ((i + 1 : Nat) : Int)), none] [] (zU N 119 43 (i : Int)) := by
        intro hc
        have ht : F (i + 1) = i := by rw [hti, if_pos ⟨qs, hc⟩]
        refine ih (i + 1) _ _ hk' (EN.s (by omega)) (by rw [mUs (by omega), hvN]) (by rw [zU_ne (by omega), N42]) (by rw [zU_off _ (by omega), N141]) (by rw [zU_eq, ht]) (fun _ => by rw [ht])
      refine ⟨fun q2 => take (Or.inl q2), fun q2 => ⟨fun q3 => take (Or.inr ?_), fun q3 => ?_⟩⟩
      · rw [hb q2] at q3
        exact (f_pc_lt (by omega)).1 q3
      · rw [hb q2] at q3
        have hnc : ¬ f_steps (Y 13 0) (Y 2 e) i < f_steps (Y 13 0) (Y 2 e) (F i) := fun h => absurd ((f_pc_lt (p := (i : Int)) (p' := F i) (e := e) (Y := Y) (by omega)).2 h) (Int.not_lt.mpr q3)
        have ht : F (i + 1) = F i := by
          rw [hti, if_neg]
          rintro ⟨_, hc | hc⟩
          · exact q2 hc
          · exact hnc hc
        exact ih (i + 1) best N hk' EN hvN N42 N141 (by rw [N43, ht]) (fun hq => by rw [ht]; exact hb q2)
    · rw [hv, f_can_side hW he qa] at qs
      have ht : F (i + 1) = F i := by rw [hti, if_neg (by rw [qs]; simp)]
      rw [z1]
      refine ih (i + 1) best N hk' ((zEw.m hN).trans hE) (by rw [hN.v, hv]) (by rw [hN.2 42 (by omega), h42]) (by rw [hN.1 141 (by omega), h141]) (by rw [hN.2 43 (by omega), h43, ht]) (fun hq => ?_)
      rw [ht] at hq ⊢
      exact hb hq
theorem m_freeNow (hd : 320 ≤ d) (hW : y_W (vM μ co cn)) (hR : zRu (μ 138) (μ 119 28) co cn) (he : 0 ≤ e ∧ e < μ 119 6) (hin : ¬ μ 130 e = -1) (hn : μ 119 15 ≤ 399000) (hh : 0 ≤ μ 119 42 ∧ μ 119 42 ≤ 248)
    (h1 : f_frees (vM μ co cn) e = true → ∀ μ', zEw μ' μ → vM μ' co cn = f_free (vM μ co cn) e → μ' 119 43 = f_to (vM μ co cn) e → μ' 119 44 = f_am (vM μ co cn) e → μ' 119 45 = f_om (vM μ co cn) e → μ' 119 42 = μ 119 42 + 4 * (f_mv (vM μ co cn) e).length → (∀ i, i < μ 119 42 → μ' 141 i = μ 141 i) → h_ok (μ' 141) (μ' 119 42) (f_mv (vM μ co cn) e) (f_free (vM μ co cn) e) (vM μ co cn) → K (some (.inl 1)) μ')
    (h0 : f_frees (vM μ co cn) e = false → ∀ μ', zEw μ' μ → vM μ' co cn = vM μ co cn → μ' 119 42 = μ 119 42 → μ' 141 = μ 141 → K (some (.inl 0)) μ') : zCall g d 216 [.inr (.inr ((0, 12), 119)), .inl e] μ K := by
  have w1 := v_env hW
  have w3 := v_tn hW
  have he' : 0 ≤ e ∧ e < 12 := by omega
  have w2 := v_en hW he'
  have v2 : vM μ co cn 2 e = μ 130 e := y_in he'
  have e13 : vM μ co cn 13 0 = μ 119 0 := by simp [vM]
  have e133 : vM μ co cn 13 3 = μ 119 6 := by simp only [vM]; rfl
  have e50 : vM μ co cn 5 0 = μ 119 14 := by simp [vM, y_cl]
  have e51 : vM μ co cn 5 1 = μ 119 15 := by simp [vM, y_cl]
  generalize hY : vM μ co cn = Y at *
  have heY : 0 ≤ e ∧ e < Y 13 3 := by omega
  have hinY : ¬ Y 2 e = -1 := by rw [v2]; exact hin
  have hnY : Y 5 1 ≤ 399000 := by omega
  have evA : vM (zU (zU μ 119 43 (-1)) 119 44 0) co cn = Y := by rw [mUs (by omega), mUs (by omega), hY]
  have EA : zEw (zU (zU μ 119 43 (-1)) 119 44 0) μ := ((zEw.refl μ).s (by omega)).s (by omega)
  have aO : ∀ i, ¬ (i = 43 ∨ i = 44) → zU (zU μ 119 43 (-1)) 119 44 0 119 i = μ 119 i := fun i hi => by rw [zU_ne (by omega), zU_ne (by omega)]
  have a141 : zU (zU μ 119 43 (-1)) 119 44 0 141 = μ 141 := by rw [zU_off _ (by omega), zU_off _ (by omega)]
  have WA : y_W (vM (zU (zU μ 119 43 (-1)) 119 44 0) co cn) := by rw [evA]; exact hW
  have e6M : ∀ M, zEw M μ → M 119 0 = Y 13 0 ∧ M 119 6 = Y 13 3 := fun M hE => by rw [hE.2 0 (by omega), hE.2 6 (by omega)]; exact ⟨e13.symm, e133.symm⟩
  refine sX12_freeNow ⟨by omega, m_ahead (co := co) (cn := cn) (by omega) he' (by omega) (zi ?_)⟩
  rw [hY]
  refine m_mayGo (co := co) (cn := cn) (by omega) WA he' (fun qm => zb1 ⟨fun qa => ?_, fun qa => ?_⟩) (fun qm => zb0 ?_)
  · -- nobody in front
    rw [evA, aO 15 (by omega), ← e51] at qm
    have hf : f_frees Y e = true := by rw [f_frees_0 qa]; exact qm
    refine sX12_freeNow_39 ⟨fun _ => ⟨by omega, ?_⟩, fun q => absurd qa q⟩
    refine m_last hd hW heY hinY hnY (h1 hf) hf evA hW rfl qa ?_ ?_ EA ?_ (e6M _ EA).1 (e6M _ EA).2 ?_ ?_ ?_ ?_ ?_
    · unfold f_om; rw [if_pos qa, f_point_eq hinY]
    · unfold f_free; rw [if_pos qa]
    · rw [aO 42 (by omega)]; omega
    · rw [zU_ne (by omega), zU_eq]; unfold f_to; rw [if_pos qa]
    · rw [zU_eq]; unfold f_am; rw [if_pos qa]
    · rw [aO 42 (by omega)]; unfold f_mv; rw [if_pos qa]; rfl
    · intro i _; rw [a141]
    · intro P hP p0 p1 p2 p3
      rw [aO 42 (by omega)] at p0 p1 p2 p3 ⊢
      refine h_mv hW heY hinY hf hnY (fun _ => ?_) (fun q => absurd qa q)
      rw [show μ 119 42 + 4 - 4 = μ 119 42 from by omega, show μ 119 42 + 4 - 3 = μ 119 42 + 1 from by omega, show μ 119 42 + 4 - 2 = μ 119 42 + 2 from by omega, show μ 119 42 + 4 - 1 = μ 119 42 + 3 from by omega]
      exact ⟨p0, p1, p2, p3⟩
  · rw [evA, aO 15 (by omega), ← e51] at qm
    have fb := f_ahead_b hW he' qa
    have hf12 : 0 ≤ f_ahead Y e ∧ f_ahead Y e < 12 := by omega
    refine m_mayGo (co := co) (cn := cn) (by omega) WA hf12 (fun qm2 => zb1 ?_) (fun qm2 => zb0 ?_)
    · rw [evA, aO 15 (by omega), ← e51] at qm2
      refine sX12_freeNow_39 ⟨fun q => absurd q qa, fun _ => ?_⟩
      obtain ⟨F, hF⟩ : ∃ F : Nat → Int, f_toL Y e = F := ⟨_, rfl⟩
      have hF0 : F 0 = -1 := by rw [← hF]; rfl
      have hFs : ∀ i : Nat, F (i + 1) = if f_side Y e i = true ∧ (F i = -1 ∨ f_steps (Y 13 0) (Y 2 e) i < f_steps (Y 13 0) (Y 2 e) (F i)) then (i : Int) else F i := by
        intro i; rw [← hF]; rfl
      have hFt : ∀ i : Nat, (i : Int) = Y 13 0 + 1 → F i = f_to Y e := by
        intro i hi
        unfold f_to
        rw [if_neg qa, ← hF, show (Y 13 0 + 1).toNat = i from by omega]
      have := m_aside (K := K) (g := g) (d := d) (F := F) (μ := μ) (co := co) (cn := cn) (Y := Y) (e := e) hd hW hR he' qa hY hFs (fun best i M hi hE hv h42 h141 h43 => ?_) (Y 13 0 + 1).toNat 0 (-1) (zU (zU μ 119 43 (-1)) 119 44 0) (by omega) EA evA (aO 42 (by omega)) a141 (by rw [zU_ne (by omega), zU_eq, hF0]) (fun q => absurd hF0 q)
      · exact this
      · rw [hFt i hi] at h43
        have M0 := (e6M M hE).1
        have M6 := (e6M M hE).2
        refine sX12_freeNow_49 ⟨fun q => ⟨fun q2 => ⟨by omega, ?_⟩, fun q2 => ?_⟩, fun q => absurd q (by omega)⟩
        · rw [h43] at q2 ⊢
          have hf : f_frees Y e = true := by
            unfold f_frees; rw [qm, qm2]; simp [q2]
          have b2 := f_to_b hW qa hf
          have ba := f_am_b hW he' hf
          have W := w_aside hW he' qa hf hnY
          have aa := f_aside_ahead (p := f_to Y e) (t := f_am Y e) hW he' qa b2.2.2.1
          refine m_cost (co := co) (cn := cn) (by omega) (by rw [hv]; exact hW) hf12 (by omega) (zi ?_)
          rw [hv, ← f_am_eq hW he' qa, h43]
          have ev2 : vM (zU M 119 44 (f_am Y e)) co cn = Y := by rw [mUs (by omega), hv]
          have zo : ∀ i, ¬ i = 44 → zU M 119 44 (f_am Y e) 119 i = M 119 i := fun i hi => zU_ne (by omega)
          refine m_bring (co := co) (cn := cn) (by omega) (by rw [ev2]; exact hW) (by rw [zo 6 (by omega), M6]; omega) (by rw [ev2]; exact f_ahead_front hW he' qa) (by rw [zo 0 (by omega), M0]; omega) (by omega) (by rw [zo 42 (by omega)]; omega) (fun N hE2 hN42 hNP hNp hvN => zn ?_)
          rw [zo 42 (by omega), h42] at hN42
          rw [zo 42 (by omega), h42, zU_off 141 (by omega)] at hNP
          rw [zo 42 (by omega), h42, ev2] at hNp
          rw [ev2] at hvN
          have EN : zEw N μ := ((zEw.e hE2).trans ((zEw.refl _).s (by omega))).trans hE
          refine m_last hd hW heY hinY hnY (h1 hf) hf hvN W f_bring_13 aa.1 (f_om_eq hW he' qa b2.2.2.1) (by unfold f_free; rw [if_neg qa]) EN (by omega) (e6M N EN).1 (e6M N EN).2 ?_ ?_ ?_ ?_ ?_
          · rw [hE2.2 43 (by omega), zo 43 (by omega), h43]
          · rw [hE2.2 44 (by omega), zU_eq]
          · rw [hN42]; unfold f_mv; rw [if_neg qa]; simp only [List.length_cons, List.length_nil]; omega
          · intro i hi; rw [hNP i (by omega), h141]
          · intro P hP p0 p1 p2 p3
            rw [hN42] at hP p0 p1 p2 p3 ⊢
            refine h_mv hW heY hinY hf hnY (fun q => absurd q qa) (fun _ => ⟨?_, ?_⟩)
            · rw [show μ 119 42 + 4 + 4 - 4 = μ 119 42 + 4 from by omega, show μ 119 42 + 4 + 4 - 3 = μ 119 42 + 4 + 1 from by omega, show μ 119 42 + 4 + 4 - 2 = μ 119 42 + 4 + 2 from by omega, show μ 119 42 + 4 + 4 - 1 = μ 119 42 + 4 + 3 from by omega]
              rw [f_bring_50] at p2
              exact ⟨p0, p1, p2, p3⟩
            · rw [show μ 119 42 + 4 + 4 - 8 = μ 119 42 from by omega, show μ 119 42 + 4 + 4 - 7 = μ 119 42 + 1 from by omega, show μ 119 42 + 4 + 4 - 6 = μ 119 42 + 2 from by omega, show μ 119 42 + 4 + 4 - 5 = μ 119 42 + 3 from by omega, hP _ (by omega), hP _ (by omega), hP _ (by omega), hP _ (by omega)]
              exact hNp
        · rw [h43] at q2
          have hf : f_frees Y e = false := by
            unfold f_frees; rw [q2]; simp [qa]
          exact h0 hf M hE hv h42 h141
    · rw [evA, aO 15 (by omega), ← e51] at qm2
      refine h0 ?_ _ EA evA (aO 42 (by omega)) a141
      unfold f_frees; rw [qm2]; simp [qa]
  · rw [evA, aO 15 (by omega), ← e51] at qm
    refine h0 ?_ _ EA evA (aO 42 (by omega)) a141
    unfold f_frees; rw [qm]; simp
end
