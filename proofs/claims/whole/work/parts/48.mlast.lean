-- needs 20.walks 30 31 32 33 34 35 36 37 38 39 40 41 42 43 44 45 46 47 21.s06 21.s07 21.s08
/-! the reference frees one -/
/-- what freeing changes -/
def zEw (μ' μ : zM) : Prop := (∀ j, ¬ (j = 119 ∨ j = 123 ∨ j = 124 ∨ j = 130 ∨ j = 141) → μ' j = μ j) ∧ ∀ i, ¬ (i = 14 ∨ i = 15 ∨ (34 ≤ i ∧ i ≤ 40) ∨ (42 ≤ i ∧ i ≤ 45)) → μ' 119 i = μ 119 i
theorem zEw.refl (μ : zM) : zEw μ μ := ⟨fun _ _ => rfl, fun _ _ => rfl⟩
theorem zEw.trans {a b c : zM} (h : zEw a b) (h' : zEw b c) : zEw a c := ⟨fun j hj => (h.1 j hj).trans (h'.1 j hj), fun i hi => (h.2 i hi).trans (h'.2 i hi)⟩
theorem zEw.m {a b : zM} (h : zEm a b) : zEw a b := ⟨fun j hj => h.1 j (by omega), fun i hi => h.2 i (by omega)⟩
theorem zEw.e {a b : zM} (h : zEv a b) : zEw a b := ⟨fun j hj => h.1 j (by omega), fun i hi => h.2 i (by omega)⟩
theorem zEw.s {a b : zM} {i v : Int} (h : zEw a b) (hi : 42 ≤ i ∧ i ≤ 45) : zEw (zU a 119 i v) b := ⟨fun j hj => by rw [zU_off j (by omega)]; exact h.1 j hj, fun k hk => by rw [zU_ne (by omega)]; exact h.2 k hk⟩
theorem zRu_w {μ μ' : zM} {co : Int → Int} {cn : Int} (h : zEw μ' μ) (hR : zRu (μ 138) (μ 119 28) co cn) : zRu (μ' 138) (μ' 119 28) co cn := by
  rw [h.1 138 (by omega), h.2 28 (by omega)]
  exact hR
/-- the moves by which one gets out -/
def f_mv (Y : zM) (e : Int) : List (zM × Int × Int × Int) := if f_ahead Y e = -1 then [(Y, e, Y 13 0, f_om Y e)] else [(f_bring Y (f_ahead Y e) (f_to Y e) (f_am Y e), e, Y 13 0, f_om Y e), (Y, f_ahead Y e, f_to Y e, f_am Y e)]
section
variable {g : zG} {d : Nat} {K : Option zV → zM → Prop} {μ : zM} {co : Int → Int} {cn e a b x y p t : Int}
theorem f_steps_c {n : Int} : f_steps n a b = f_steps n b a := by unfold f_steps; omega
theorem f_can_side {Y : zM} (h : y_W Y) (he : 0 ≤ e ∧ e < 12) (ha : ¬ f_ahead Y e = -1) : f_can Y (f_ahead Y e) p = f_side Y e p := by
  have b := f_ahead_b h he ha
  have fa := f_ahead_front h he ha
  unfold f_can f_side
  rw [fa, f_point_eq (by rw [b.2.1]; exact b.2.2.1), b.2.1]
  simp
/-- the moves, as the pile has them -/
theorem h_mv {P : Int → Int} {h : Int} {Y : zM} (hW : y_W Y) (he : 0 ≤ e ∧ e < Y 13 3) (hin : ¬ Y 2 e = -1) (hf : f_frees Y e = true) (hn : Y 5 1 ≤ 399000)
    (h0 : f_ahead Y e = -1 → P (h - 4) = e ∧ P (h - 3) = f_point Y e ∧ P (h - 2) = Y 5 0 ∧ P (h - 1) = f_om Y e)
    (h1 : ¬ f_ahead Y e = -1 → (P (h - 4) = e ∧ P (h - 3) = f_point (f_bring Y (f_ahead Y e) (f_to Y e) (f_am Y e)) e ∧ P (h - 2) = f_to Y e ∧ P (h - 1) = f_om Y e) ∧ (P (h - 8) = f_ahead Y e ∧ P (h - 7) = f_point Y (f_ahead Y e) ∧ P (h - 6) = Y 5 0 ∧ P (h - 5) = f_am Y e)) : h_ok P h (f_mv Y e) (f_free Y e) Y := by
  have w := hW.1
  have he' : 0 ≤ e ∧ e < 12 := by omega
  have w2 := (hW.2.2.2 e he').2.1
  have bo := f_om_b hW he' hin hf hn
  have ba := f_am_b hW he' hf
  unfold f_mv f_free
  by_cases ha : f_ahead Y e = -1
  · rw [if_pos ha, if_pos ha]
    simp only [h_ok]
    exact ⟨⟨trivial, hW, he, ha, Or.inl trivial, by rw [f_point_eq hin]; omega, by omega⟩, h0 ha, trivial⟩
  · rw [if_neg ha, if_neg ha]
    have b := f_ahead_b hW he' ha
    have b2 := f_to_b hW ha hf
    have W := w_aside hW he' ha hf hn
    have aa := f_aside_ahead (p := f_to Y e) (t := f_am Y e) hW he' ha b2.2.2.1
    obtain ⟨k1, k2⟩ := h1 ha
    simp only [h_ok]
    refine ⟨⟨trivial, W, by rw [f_bring_13]; exact he, aa.1, Or.inl (by rw [f_bring_13]), ?_, by omega⟩, ⟨k1.1, k1.2.1, by rw [f_bring_50]; exact k1.2.2.1, k1.2.2.2⟩, ⟨trivial, hW, b.1, f_ahead_front hW he' ha, b2.2.2.2, ?_, by omega⟩, ?_, trivial⟩
    · rw [f_point_eq (by rw [aa.2]; exact hin), aa.2]; omega
    · rw [f_point_eq (by rw [b.2.1]; exact hin), b.2.1]; exact b2.2.2.1
    · rw [show h - 4 - 4 = h - 8 from by omega, show h - 4 - 3 = h - 7 from by omega, show h - 4 - 2 = h - 6 from by omega, show h - 4 - 1 = h - 5 from by omega]
      exact k2
/-- the last move, from a state Z -/
theorem m_last {Y Z M : zM} (hd : 320 ≤ d) (hW : y_W Y) (he : 0 ≤ e ∧ e < Y 13 3) (hin : ¬ Y 2 e = -1) (hn : Y 5 1 ≤ 399000)
    (h1 : ∀ μ', zEw μ' μ → vM μ' co cn = f_free Y e → μ' 119 43 = f_to Y e → μ' 119 44 = f_am Y e → μ' 119 45 = f_om Y e → μ' 119 42 = μ 119 42 + 4 * (f_mv Y e).length → (∀ i, i < μ 119 42 → μ' 141 i = μ 141 i) → h_ok (μ' 141) (μ' 119 42) (f_mv Y e) (f_free Y e) Y → K (some (.inl 1)) μ')
    (hf : f_frees Y e = true) (hvM : vM M co cn = Z) (WZ : y_W Z) (z13 : Z 13 = Y 13) (za : f_ahead Z e = -1) (hom : f_om Y e = f_min Z (f_point Z e) (Y 13 0)) (hfin : f_bring Z e (Y 13 0) (f_om Y e) = f_free Y e) (hE : zEw M μ) (h42 : 0 ≤ M 119 42 ∧ M 119 42 ≤ 252) (hM0 : M 119 0 = Y 13 0) (hM6 : M 119 6 = Y 13 3) (h43 : M 119 43 = f_to Y e) (h44 : M 119 44 = f_am Y e) (hlen : M 119 42 + 4 = μ 119 42 + 4 * (f_mv Y e).length) (hP : ∀ i, i < μ 119 42 → M 141 i = μ 141 i)
    (hhist : ∀ P : Int → Int, (∀ i, i < M 119 42 → P i = M 141 i) → P (M 119 42) = e → P (M 119 42 + 1) = f_point Z e → P (M 119 42 + 2) = Z 5 0 → P (M 119 42 + 3) = f_om Y e → h_ok P (M 119 42 + 4) (f_mv Y e) (f_free Y e) Y) :
    zCall g (d - 1) 208 [.inr (.inr ((0, 12), 119)), .inl e, .inl (M 119 0)] M (zIi fun r2 μ1 => zCall g (d - 1) 212 [.inr (.inr ((0, 12), 119)), .inl e, .inl (μ1 119 0), .inl r2] (zU μ1 119 45 r2) (zNn fun μ3 => K (some (.inl 1)) μ3)) := by
  have w := hW.1
  have he' : 0 ≤ e ∧ e < 12 := by omega
  have bo := f_om_b hW he' hin hf hn
  refine m_cost (co := co) (cn := cn) (by omega) (by rw [hvM]; exact WZ) (by rw [hM6]; exact he) (by omega) (zi ?_)
  rw [hvM, hM0, ← hom]
  have ev2 : vM (zU M 119 45 (f_om Y e)) co cn = Z := by rw [mUs (by omega), hvM]
  have zo : ∀ i, ¬ i = 45 → zU M 119 45 (f_om Y e) 119 i = M 119 i := fun i hi => zU_ne (by omega)
  refine m_bring (co := co) (cn := cn) (by omega) (by rw [ev2]; exact WZ) (by rw [zo 6 (by omega), hM6]; exact he) (by rw [ev2]; exact za) (by rw [zo 0 (by omega), hM0]; omega) (by omega) (by rw [zo 42 (by omega)]; exact h42) (fun N hE2 hN42 hNP hNp hvN => zn ?_)
  rw [zo 42 (by omega)] at hN42 hNP hNp
  rw [ev2] at hNp hvN
  rw [zU_off 141 (by omega)] at hNP
  refine h1 N ?_ ?_ ?_ ?_ ?_ ?_ ?_ ?_
  · exact ((zEw.e hE2).trans ((zEw.refl _).s (by omega))).trans hE
  · rw [hvN]; exact hfin
  · rw [hE2.2 43 (by omega), zo 43 (by omega), h43]
  · rw [hE2.2 44 (by omega), zo 44 (by omega), h44]
  · rw [hE2.2 45 (by omega), zU_eq]
  · rw [hN42]; exact hlen
  · intro i hi
    have : (f_mv Y e).length ≥ 1 := by unfold f_mv; split <;> simp
    rw [hNP i (by omega), hP i hi]
  · rw [hN42]
    exact hhist (N 141) (fun i hi => hNP i (by omega)) hNp.1 hNp.2.1 hNp.2.2.1 hNp.2.2.2
/-- what a place aside costs: the nearer, the less -/
def f_pc (Y : zM) (e p : Int) : Int := Y 13 1 * (f_steps (Y 13 0) (Y 5 0) (Y 2 e) + f_steps (Y 13 0) (Y 2 e) p) + 2 * Y 13 2 + Y 13 1 * (f_steps (Y 13 0) (Y 2 e) p + f_steps (Y 13 0) (Y 2 e) (Y 13 0)) + 2 * Y 13 2
theorem z_pc {A S T T1 G : Int} (hA : 0 ≤ A ∧ A ≤ 12) (hS : 0 ≤ S ∧ S ≤ 12) (hT : 0 ≤ T ∧ T ≤ 12) (h1 : 1 ≤ T1 ∧ T1 ≤ 9) (hG : 0 ≤ G ∧ G ≤ 9) : zw (zw (T1 * (A + S) + 2 * G + zw (T1 * zw (S + T))) + zw (2 * G)) = T1 * (A + S) + 2 * G + T1 * (S + T) + 2 * G := by
  have m1 : 0 ≤ T1 * (A + S) ∧ T1 * (A + S) ≤ 9 * 24 := ⟨Int.mul_nonneg (by omega) (by omega), Int.mul_le_mul (by omega) (by omega) (by omega) (by omega)⟩
  have m2 : 0 ≤ T1 * (S + T) ∧ T1 * (S + T) ≤ 9 * 24 := ⟨Int.mul_nonneg (by omega) (by omega), Int.mul_le_mul (by omega) (by omega) (by omega) (by omega)⟩
  rw [zwi (x := S + T) (by omega) (by omega), zwi (x := T1 * (S + T)) (by omega) (by omega), zwi (x := T1 * (A + S) + 2 * G + T1 * (S + T)) (by omega) (by omega), zwi (x := 2 * G) (by omega) (by omega), zwi (x := T1 * (A + S) + 2 * G + T1 * (S + T) + 2 * G) (by omega) (by omega)]
theorem f_pc_lt {Y : zM} {p' : Int} (h1 : 1 ≤ Y 13 1) : f_pc Y e p < f_pc Y e p' ↔ f_steps (Y 13 0) (Y 2 e) p < f_steps (Y 13 0) (Y 2 e) p' := by
  unfold f_pc
  generalize f_steps (Y 13 0) (Y 2 e) p = S
  generalize f_steps (Y 13 0) (Y 2 e) p' = S'
  generalize f_steps (Y 13 0) (Y 5 0) (Y 2 e) = A
  generalize f_steps (Y 13 0) (Y 2 e) (Y 13 0) = T
  generalize Y 13 2 = G
  generalize Y 13 1 = T1 at *
  constructor
  · intro h
    by_cases q : S < S'
    · exact q
    · exfalso
      have m3 : T1 * (A + S') ≤ T1 * (A + S) := Int.mul_le_mul_of_nonneg_left (by omega) (by omega)
      have m4 : T1 * (S' + T) ≤ T1 * (S + T) := Int.mul_le_mul_of_nonneg_left (by omega) (by omega)
      omega
  · intro h
    have m3 : T1 * (A + S) ≤ T1 * (A + S' - 1) := Int.mul_le_mul_of_nonneg_left (by omega) (by omega)
    rw [Int.mul_sub, Int.mul_one] at m3
    have m4 : T1 * (S + T) ≤ T1 * (S' + T) := Int.mul_le_mul_of_nonneg_left (by omega) (by omega)
    omega
end
