-- needs 9s
/-! put: the reference's search -/
/-- what the reference has noted of the places -/
def pm_ok (N : zM) (Q : zPt) (c l : List Int) (Y : zM) : Prop := (N 119 23 = (pt_m Q : Int) ∧ N 119 0 = (pt_n Q : Int)) ∧ (∀ k s : Nat, k < pt_m Q → s < pt_n Q → N 144 ((23 * k + s : Nat) : Int) = zB (pt_B Q k s) ∧ N 145 ((23 * k + s : Nat) : Int) = zB (pt_F Q k s)) ∧ (∀ k : Nat, k < pt_m Q → (0 ≤ N 146 (k : Int) ∧ N 146 (k : Int) ≤ 100) ∧ ∀ s : Nat, s < pt_n Q → (pt_B Q k s = true ∨ pt_F Q k s = true) → N 146 (k : Int) ≤ pt_c Q s) ∧ (∀ k : Nat, k < pt_m Q → N 136 (k : Int) = c.getD k 0 ∧ 0 ≤ c.getD k 0 ∧ c.getD k 0 < 12) ∧ (∀ e : Int, 0 ≤ e ∧ e < 12 → N 125 e = Y 9 e ∧ 0 ≤ Y 9 e ∧ Y 9 e ≤ 30) ∧ (∀ s : Int, 0 ≤ s ∧ s < 23 → N 120 s = Y 6 s) ∧ (N 119 25 = (l.length : Int) ∧ zli (N 137) l ∧ l.length ≤ 6) ∧ ∀ j k s : Nat, j < pt_m Q → k < pt_m Q → s < pt_n Q → pt_G Q j k s = (decide (Y 9 (c.getD j 0) + Y 9 (c.getD k 0) ≤ Y 6 (s : Int)) && decide (zix l (c.getD k 0) < zix l (c.getD j 0)))
def pm_z (N : zM) (Q : zPt) (z : zSt2) : Prop := ∀ s : Nat, s < pt_n Q → N 147 (s : Int) = z.1 s ∧ N 148 (s : Int) = z.2 s
def pm_w (Q : zPt) (k : Nat) (z : zSt2) : Prop := ∀ s : Nat, s < pt_n Q → (-1 ≤ z.1 s ∧ z.1 s < (k : Int)) ∧ (-1 ≤ z.2 s ∧ z.2 s < (k : Int))
theorem pm_w_in {Q : zPt} {k s : Nat} {z : zSt2} (h : pm_w Q k z) : pm_w Q (k + 1) (pt_in z k s) := by
  intro x hx
  have := h x hx
  unfold pt_in
  by_cases q : z.1 s = -1
  · rw [if_pos q]
    unfold pt_u
    simp only []
    by_cases qx : x = s
    · rw [if_pos qx]; omega
    · rw [if_neg qx]; omega
  · rw [if_neg q]
    unfold pt_u
    simp only []
    by_cases qx : x = s
    · rw [if_pos qx]; omega
    · rw [if_neg qx]; omega
def zEpt (μ' μ : zM) : Prop := (∀ j, ¬ (j = 119 ∨ j = 142 ∨ j = 147 ∨ j = 148) → μ' j = μ j) ∧ ∀ i, ¬ i = 55 → μ' 119 i = μ 119 i
theorem zEpt.refl (μ : zM) : zEpt μ μ := ⟨fun _ _ => rfl, fun _ _ => rfl⟩
theorem zEpt.trans {a b c : zM} (h : zEpt a b) (h' : zEpt b c) : zEpt a c := ⟨fun j hj => (h.1 j hj).trans (h'.1 j hj), fun i hi => (h.2 i hi).trans (h'.2 i hi)⟩
theorem zEpt.u {a b : zM} {j : Nat} {i v : Int} (h : zEpt a b) (hj : j = 142 ∨ j = 147 ∨ j = 148) : zEpt (zU a j i v) b := ⟨fun k hk => by rw [zU_off k (by omega)]; exact h.1 k hk, fun k hk => by rw [zU_off 119 (by omega)]; exact h.2 k hk⟩
theorem pm_ok.e {M N : zM} {Q : zPt} {c l : List Int} {Y : zM} (h : pm_ok N Q c l Y) (e : zEpt M N) : pm_ok M Q c l Y := by
  unfold pm_ok at *
  rw [e.2 23 (by omega), e.2 0 (by omega), e.2 25 (by omega), e.1 144 (by omega), e.1 145 (by omega), e.1 146 (by omega), e.1 136 (by omega), e.1 125 (by omega), e.1 120 (by omega), e.1 137 (by omega)]
  exact h
section
variable {g : zG} {d : Nat} {K : Option zV → zM → Prop} {N Y : zM} {Q : zPt} {c l : List Int} {z : zSt2} {k s : Nat}
theorem pm_ad (h6 : pt_m Q ≤ 6) (hn : pt_n Q ≤ 23) (hk : k < pt_m Q) (hs : s < pt_n Q) : zw (zw (23 * (k : Int)) + (s : Int)) = ((23 * k + s : Nat) : Int) := by
  rw [zwi (x := 23 * (k : Int)) (by omega) (by omega), zwi (x := 23 * (k : Int) + (s : Int)) (by omega) (by omega)]
  omega
theorem m_canStand (hd : 2 ≤ d) (ok : pm_ok N Q c l Y) (h6 : pt_m Q ≤ 6) (hn : pt_n Q ≤ 23) (hz : pm_z N Q z) (hw : pm_w Q k z) (hk : k < pt_m Q) (hs : s < pt_n Q) (h1 : pt_can Q z k s = true → K (some (.inl 1)) N) (h0 : pt_can Q z k s = false → K (some (.inl 0)) N) : zCall g d 231 [.inr (.inr ((0, 12), 119)), .inl (k : Int), .inl (s : Int)] N K := by
  obtain ⟨o1, o2, o3, o4, o5, o6, o7, o8⟩ := ok
  obtain ⟨z1, z2⟩ := hz s hs
  have ws := hw s hs
  obtain ⟨b1, b2⟩ := o2 k s hk hs
  have zb : ∀ b : Bool, (zB b = 0 ↔ b = false) ∧ (zB b = 0 ∨ zB b = 1) := fun b => by cases b <;> simp [zB]
  unfold pt_can at h1 h0
  refine sX12_canStand ⟨by omega, fun q => ?_, fun q => ?_⟩
  · rw [z1] at q
    rw [if_neg q] at h1 h0
    rw [pm_ad (k := k) (s := s) h6 hn hk hs]
    refine ⟨fun q2 => ?_, fun q2 => ⟨by omega, ?_⟩⟩
    · rw [z2] at q2
      rw [if_neg q2] at h0
      exact h0 rfl
    · rw [z2] at q2
      rw [if_pos q2] at h1 h0
      obtain ⟨j, ej⟩ : ∃ j : Nat, z.1 s = (j : Int) := ⟨(z.1 s).toNat, by omega⟩
      rw [ej, show ((j : Int)).toNat = j from by omega] at h1 h0
      have hj : j < pt_m Q := by omega
      obtain ⟨cj1, cj2, cj3⟩ := o4 j hj
      obtain ⟨ck1, ck2, ck3⟩ := o4 k hk
      rw [b2]
      refine ⟨fun q3 => ?_, fun q3 => ?_⟩
      · have ft : pt_F Q k s = true := by
          cases hb : pt_F Q k s
          · rw [hb] at q3; exact absurd rfl q3
          · rfl
        rw [ft, Bool.true_and, o8 j k s hj hk hs] at h1 h0
        rw [z1, ej, cj1, ck1]
        have yj := o5 _ ⟨cj2, cj3⟩
        have yk := o5 _ ⟨ck2, ck3⟩
        rw [yj.1, yk.1, o6 (s : Int) (by omega), zwi (x := Y 9 (c.getD j 0) + Y 9 (c.getD k 0)) (by omega) (by omega)]
        refine ⟨by omega, by omega, by omega, by omega, fun q4 => ?_, fun q4 => ⟨by omega, m_leaveOf o7.1 o7.2.1 o7.2.2 (zi ?_)⟩⟩
        · rw [decide_eq_false (by omega), Bool.false_and] at h0
          exact h0 rfl
        · rw [cj1]
          refine m_leaveOf o7.1 o7.2.1 o7.2.2 (zi ⟨fun q5 => ?_, fun q5 => ?_⟩)
          · rw [decide_eq_false (show ¬ zix l (c.getD k 0) < zix l (c.getD j 0) by omega), Bool.and_false] at h0
            exact h0 rfl
          · rw [decide_eq_true q4, decide_eq_true q5] at h1
            exact h1 rfl
      · have ft : pt_F Q k s = false := (zb _).1.1 q3
        rw [ft, Bool.false_and] at h0
        exact h0 rfl
  · rw [z1] at q
    rw [if_pos q] at h1 h0
    rw [pm_ad (k := k) (s := s) h6 hn hk hs, b1]
    refine ⟨by omega, (zb _).2, ?_⟩
    cases hb : pt_B Q k s
    · exact h0 hb
    · exact h1 hb
theorem m_cheapest (ok : pm_ok N Q c l Y) (h6 : pt_m Q ≤ 6) (hk : k ≤ pt_m Q) (h : ∀ v, v = su (fun i => N 146 (i : Int)) (pt_m Q - k) k → 0 ≤ v ∧ v ≤ 600 → K (some (.inl v)) N) : zCall g d 232 [.inr (.inr ((0, 12), 119)), .inl (k : Int)] N K := by
  obtain ⟨⟨o1, _⟩, _, o3, _⟩ := ok
  refine sX12_cheapest ?_
  have loop : ∀ (j i : Nat) (v : Int), i + j = pt_m Q → k ≤ i → 0 ≤ v ∧ v ≤ 100 * ((i : Int) - (k : Int)) → su (fun i => N 146 (i : Int)) (pt_m Q - k) k = v + su (fun i => N 146 (i : Int)) j i → zT g d mX12_cheapest K 4 [some (.inr (.inr ((0, 12), 119))), none, some (.inl v), some (.inl (i : Int))] [] N := by
    intro j
    induction j with
    | zero =>
      intro i v hi hki hv he
      have he : su (fun i => N 146 (i : Int)) (pt_m Q - k) k = v + 0 := he
      exact sX12_cheapest_4 ⟨fun _ => h v (by omega) (by omega), fun q => by omega⟩
    | succ j ih =>
      intro i v hi hki hv he
      have b := (o3 i (by omega)).1
      refine sX12_cheapest_4 ⟨fun q => by omega, fun _ => ⟨by omega, ?_⟩⟩
      rw [zwi (x := v + N 146 (i : Int)) (by omega) (by omega), zw_suc (by omega)]
      refine ih (i + 1) _ (by omega) (by omega) (by omega) ?_
      rw [he]
      show v + (N 146 (i : Int) + su (fun i => N 146 (i : Int)) j (i + 1)) = _
      omega
  exact loop (pt_m Q - k) k 0 (by omega) (Nat.le_refl _) (by omega) (by omega)
theorem m_stand1 (hz : pm_z N Q z) (hn : pt_n Q ≤ 23) (hs : s < pt_n Q) (h : ∀ M, zEpt M N → M 119 = N 119 → M 142 = N 142 → pm_z M Q (pt_in z k s) → K none M) : zCall g d 233 [.inr (.inr ((0, 12), 119)), .inl (k : Int), .inl (s : Int), .inl 1] N K := by
  obtain ⟨z1, z2⟩ := hz s hs
  refine sX12_stand ⟨fun _ => ⟨by omega, fun q => ?_, fun q => ?_⟩, fun q => by omega⟩
  · rw [z1] at q
    refine h _ ((zEpt.refl N).u (by omega)) (zU_off 119 (by omega)) (zU_off 142 (by omega)) (fun x hx => ?_)
    unfold pt_in
    rw [if_neg q]
    unfold pt_u
    simp only []
    rw [zU_off 147 (by omega)]
    refine ⟨(hz x hx).1, ?_⟩
    by_cases qx : x = s
    · rw [if_pos qx, qx, zU_eq]
    · rw [if_neg qx, zU_ne (by omega)]
      exact (hz x hx).2
  · rw [z1] at q
    refine h _ ((zEpt.refl N).u (by omega)) (zU_off 119 (by omega)) (zU_off 142 (by omega)) (fun x hx => ?_)
    unfold pt_in
    rw [if_pos q]
    unfold pt_u
    simp only []
    rw [zU_off 148 (by omega)]
    refine ⟨?_, (hz x hx).2⟩
    by_cases qx : x = s
    · rw [if_pos qx, qx, zU_eq]
    · rw [if_neg qx, zU_ne (by omega)]
      exact (hz x hx).1
theorem m_stand0 (hz : pm_z N Q (pt_in z k s)) (hw : pm_w Q k z) (hc : pt_can Q z k s = true) (hn : pt_n Q ≤ 23) (hs : s < pt_n Q) (h : ∀ M, zEpt M N → M 119 = N 119 → M 142 = N 142 → pm_z M Q z → K none M) : zCall g d 233 [.inr (.inr ((0, 12), 119)), .inl (k : Int), .inl (s : Int), .inl 0] N K := by
  have ws := hw s hs
  unfold pt_in at hz
  unfold pt_can at hc
  by_cases q : z.1 s = -1
  · rw [if_pos q] at hz
    have hzs := hz s hs
    unfold pt_u at hz hzs
    simp only [if_pos rfl] at hzs
    refine sX12_stand ⟨fun q2 => absurd rfl q2, fun _ => ⟨by omega, fun q2 => ?_, fun q2 => ?_⟩⟩
    · refine h _ ((zEpt.refl N).u (by omega)) (zU_off 119 (by omega)) (zU_off 142 (by omega)) (fun x hx => ?_)
      have zx := hz x hx
      simp only [] at zx
      rw [zU_off 148 (by omega)]
      refine ⟨?_, zx.2⟩
      by_cases qx : x = s
      · rw [qx, zU_eq, q]
      · rw [zU_ne (by omega), zx.1, if_neg qx]
    · rw [hzs.2] at q2
      omega
  · rw [if_neg q] at hz hc
    by_cases q3 : z.2 s = -1
    · have hzs := hz s hs
      unfold pt_u at hz hzs
      simp only [if_pos rfl] at hzs
      refine sX12_stand ⟨fun q2 => absurd rfl q2, fun _ => ⟨by omega, fun q2 => absurd hzs.2 q2, fun q2 => ?_⟩⟩
      refine h _ ((zEpt.refl N).u (by omega)) (zU_off 119 (by omega)) (zU_off 142 (by omega)) (fun x hx => ?_)
      have zx := hz x hx
      simp only [] at zx
      rw [zU_off 147 (by omega)]
      refine ⟨zx.1, ?_⟩
      by_cases qx : x = s
      · rw [qx, zU_eq, q3]
      · rw [zU_ne (by omega), zx.2, if_neg qx]
    · rw [if_neg q3] at hc
      cases hc
end
