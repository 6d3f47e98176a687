-- needs 20.walks 30 33 34 35 36 38 41 42 43 21.s06 21.s07
/-! the innermost of the text, in the reference -/
section
variable {g : zG} {d : Nat} {K : Option zV → zM → Prop} {M μ0 : zM} {x m l : Int} {H L : Int → Int}
theorem p_num_b : ∀ (k : Nat) (a v : Int), k ≤ 3 → (k = 3 → v = 0) → (k = 2 → 0 ≤ v ∧ v ≤ 9) → (k = 1 → 0 ≤ v ∧ v ≤ 99) → (k = 0 → 0 ≤ v ∧ v ≤ 999) → 0 ≤ (p_num H k a v).2 ∧ (p_num H k a v).2 ≤ 999
  | 0, a, v, _, _, _, _, h => by simp only [p_num]; exact h rfl
  | k + 1, a, v, h0, h1, h2, h3, h4 => by
    simp only [p_num]
    by_cases q : 48 ≤ H a ∧ H a ≤ 57
    · rw [if_pos q]
      exact p_num_b k (a + 1) (v * 10 + H a - 48) (by omega) (by omega) (by omega) (by omega) (by omega)
    · rw [if_neg q]
      simp only []
      omega
theorem m_digits (hh : n_here H m μ0) (hd : 1 ≤ d) : ∀ (k : Nat) (v a : Int) (N : zM), k ≤ 3 → (k = 3 → v = 0) → (k = 2 → 0 ≤ v ∧ v ≤ 9) → (k = 1 → 0 ≤ v ∧ v ≤ 99) → n_same N μ0 → N 119 36 = a → 0 ≤ a ∧ a ≤ m → N 119 37 = -1 → (∀ N', n_same N' μ0 → N' 119 36 = (p_num H k a v).1 → N' 119 37 = -1 → K (some (.inl (p_num H k a v).2)) N') → zT g d mX12_thing K 123 [some (.inr (.inr ((0, 12), 119))), none, none, some (.inl v), some (.inl (3 - k))] [] N := by
  intro k
  induction k with
  | zero =>
    intro v a N _ _ _ _ hN hat ha hf hK
    exact sX12_thing_123 ⟨fun q => hK N hN hat hf, fun q => absurd q (by omega)⟩
  | succ k ih =>
    intro v a N k3 h3 h2 h1 hN hat ha hf hK
    have hm := hh.1
    simp only [p_num] at hK
    refine sX12_thing_123 ⟨fun q => absurd q (by omega), fun q => ⟨by omega, m_here hh hN (by omega) (zi (m_in (fun q2 => zb1 (m_here hh hN (by omega) (zi ?_))) (fun q2 => zb0 ?_)))⟩⟩
    · rw [hat] at q2 ⊢
      rw [if_pos q2] at hK
      have hlt : a < m := by
        by_cases q3 : m ≤ a
        · have := hh.2.2.2 _ q3; omega
        · omega
      rw [zwi (x := a + 1) (by omega) (by omega), zwi (x := 10 * v) (by omega) (by omega), zwi (x := 10 * v + H a) (by omega) (by omega), zwi (x := 10 * v + H a - 48) (by omega) (by omega), zwi (x := 3 - ((k + 1 : Nat) : Int) + 1) (by omega) (by omega)]
      have := ih (v * 10 + H a - 48) (a + 1) (zU N 119 36 (a + 1)) (by omega) (by omega) (by omega) (by omega) (n_same_U hN (Or.inl rfl)) zU_eq (by omega) (by rw [zU_ne (by omega)]; exact hf) hK
      rw [show 10 * v + H a - 48 = v * 10 + H a - 48 from by omega, show 3 - ((k + 1 : Nat) : Int) + 1 = 3 - (k : Int) from by omega]
      exact this
    · rw [hat] at q2
      rw [if_neg q2] at hK
      exact hK N hN hat hf
theorem zi2c_id (h : 0 ≤ x ∧ x ≤ 127) : zi2c x = x := by
  obtain ⟨n, rfl⟩ : ∃ n : Nat, x = (n : Int) := ⟨x.toNat, by omega⟩
  have : n < 128 := by omega
  have key : ∀ k : Fin 128, zi2c ((k.val : Nat) : Int) = ((k.val : Nat) : Int) := by decide
  exact key ⟨n, this⟩
theorem p_letter_b {c : Int} (h : ¬ p_letter c = -1) : (0 ≤ p_letter c ∧ p_letter c < 8) ∧ 98 ≤ c ∧ c ≤ 118 := by
  unfold p_letter at *
  repeat' split
  all_goals first | omega | (simp_all; done)
theorem m_rest {dep : Int} {sub : Int → zRes} {deep : Bool} (hd : 2 ≤ d) (hh : n_here H m μ0) (hl : n_let μ0 L g) (hM : n_same M μ0) (ha : 0 ≤ M 119 36 ∧ M 119 36 ≤ m) (hf : M 119 37 = -1) (hp : ¬ H (M 119 36) = 40 ∨ deep = false) (hK : n_K μ0 L (p_core H sub deep (M 119 36)) K) : zT g d mX12_thing K 93 [some (.inr (.inr ((0, 12), 119))), none, none, none, none] [] M := by
  have hm := hh.1
  refine sX12_thing_93 ⟨by omega, m_fine (fun _ => zb1 (m_here hh hM ha.1 (zi (m_in (fun q2 => zb1 ?_) (fun q2 => zb0 ?_))))) (fun q => absurd hf q)⟩
  · have e : p_core H sub deep (M 119 36) = ((p_num H 3 (M 119 36) 0).1, [(p_num H 3 (M 119 36) 0).2], true) := by
      unfold p_core; rw [if_pos q2]
    rw [e] at hK
    refine m_digits hh (by omega) 3 0 (M 119 36) M (by omega) (by omega) (by omega) (by omega) hM rfl ha hf (fun N' h1 h2 h3 => ?_)
    have b := p_num_b (H := H) 3 (M 119 36) 0 (by omega) (by omega) (by omega) (by omega) (by omega)
    exact hK.1 N' _ h1 rfl h2 h3 (fun _ => p_is_num b.1)
  · have hlt : ¬ H (M 119 36) = -1 → M 119 36 < m := by
      intro q
      by_cases q3 : m ≤ M 119 36
      · exact absurd (hh.2.2.2 _ q3) q
      · omega
    have let1 : ¬ p_letter (H (M 119 36)) = -1 → (¬ M 119 38 = -1 → zCall g (d - 1) 189 [.inr (.inr ((0, 12), 119)), .inl (zi2c (H (M 119 36)))] (zU M 119 36 (zw (M 119 36 + 1))) (zIi fun r6 μ5 => K (some (.inl r6)) μ5)) ∧ (M 119 38 = -1 → K (some (.inl 0)) (zU M 119 36 (zw (M 119 36 + 1)))) := by
      intro q
      have b := p_letter_b q
      have e : p_core H sub deep (M 119 36) = (M 119 36 + 1, [-1 - p_letter (H (M 119 36))], true) := by
        unfold p_core
        rw [if_neg q2, if_neg (by omega), if_neg q]
      rw [e] at hK
      have hlt := hlt (by omega)
      rw [zwi (x := M 119 36 + 1) (by omega) (by omega), zi2c_id (by omega)]
      have e38 := hM.2 38 (by omega) (by omega)
      have hS : n_same (zU M 119 36 (M 119 36 + 1)) μ0 := n_same_U hM (Or.inl rfl)
      refine ⟨fun q9 => ?_, fun q9 => ?_⟩
      · refine hl (by omega) (d - 1) _ _ _ (by omega) hS q (zi ?_)
        exact hK.1 _ _ hS rfl zU_eq (by rw [zU_ne (by omega)]; exact hf) (fun _ => p_is_let b.1)
      · exact hK.1 _ _ hS rfl zU_eq (by rw [zU_ne (by omega)]; exact hf) (fun q10 => absurd (by omega) q10)
    have no : p_letter (H (M 119 36)) = -1 → zCall g (d - 1) 182 [.inr (.inr ((0, 12), 119))] M (zNn fun μ21 => K (some (.inl 0)) μ21) := by
      intro q
      have e : p_core H sub deep (M 119 36) = (M 119 36, [], false) := by
        unfold p_core
        rw [if_neg q2]
        by_cases q4 : H (M 119 36) = 40
        · rw [if_pos q4]
          rcases hp with hp | hp
          · exact absurd q4 hp
          · subst hp; rfl
        · rw [if_neg q4, if_pos q]
      rw [e] at hK
      exact m_isWrong (by omega) hf (zn (hK.2 _ _ (n_same_U hM (Or.inr rfl)) rfl zU_eq))
    generalize hc : H (M 119 36) = c at *
    refine ⟨fun a1 => let1 (by rw [a1]; decide), fun a1 => ⟨fun a2 => let1 (by rw [a2]; decide), fun a2 => ⟨fun a3 => let1 (by rw [a3]; decide), fun a3 => ⟨fun a4 => let1 (by rw [a4]; decide), fun a4 => ⟨fun a5 => let1 (by rw [a5]; decide), fun a5 => ⟨fun a6 => let1 (by rw [a6]; decide), fun a6 => ⟨fun a7 => let1 (by rw [a7]; decide), fun a7 => ⟨fun a8 => let1 (by rw [a8]; decide), fun a8 => no ?_⟩⟩⟩⟩⟩⟩⟩⟩
    unfold p_letter
    rw [if_neg a1, if_neg a2, if_neg a3, if_neg a4, if_neg a5, if_neg a6, if_neg a7, if_neg a8]
theorem m_thing {D : Nat} {dep : Int} {sub : Int → zRes} {deep : Bool} (hdp : 0 ≤ dep ∧ dep ≤ 5) (hdeep : deep = decide (dep < 5)) (hh : n_here H m μ0) (hl : n_let μ0 L g) (hs : p_fit H m sub) (hsub : deep = true → ∀ d', D ≤ d' → n_call μ0 L m g d' 184 [.inr (.inr ((0, 12), 119)), .inl (dep + 1)] sub) : ∀ (k d : Nat) (M : zM) (K : Option zV → zM → Prop), D + 3 + k ≤ d → n_same M μ0 → 0 ≤ M 119 36 ∧ M 119 36 ≤ m → m - M 119 36 < k → M 119 37 = -1 → n_K μ0 L (p_thing H sub deep k (M 119 36)) K → zCall g d 188 [.inr (.inr ((0, 12), 119)), .inl dep] M K := by
  intro k
  induction k with
  | zero => intro d M K h1 h2 h3 h4; omega
  | succ k ih =>
    intro d M K hd hM ha hk hf hK
    have hm := hh.1
    simp only [p_thing] at hK
    refine sX12_thing ⟨by omega, m_passes (by omega) hh hM ha hf (by omega) (fun q hlt => zb1 ?_) (fun q => zb0 (m_passes (by omega) hh hM ha hf (by omega) (fun q2 hlt => zb1 ?_) (fun q2 => zb0 (m_fine (fun _ => zb1 (m_here hh hM ha.1 (zi ⟨fun q3 => ?_, fun q3 => ⟨fun q4 => ?_, fun q4 => ?_⟩⟩))) (fun q3 => absurd hf q3)))))⟩
    · rw [if_pos q] at hK
      have e6 : zU M 119 36 (M 119 36 + 1) 119 36 = M 119 36 + 1 := zU_eq
      refine ih (d - 1) _ _ (by omega) (n_same_U hM (Or.inl rfl)) (by rw [e6]; omega) (by rw [e6]; omega) (by rw [zU_ne (by omega)]; exact hf) ?_
      rw [e6]
      unfold n_K at hK
      rw [p_app_1, p_app_3] at hK
      generalize p_thing H sub deep k (M 119 36 + 1) = res at *
      obtain ⟨a', c', ok⟩ := res
      refine ⟨fun N2 v2 hN2 ho ha2 hf2 hv2 => zi ?_, fun N2 v2 hN2 ho hf2 => zi ?_⟩
      · simp only [] at ho ha2 hv2
        subst ho
        have k1 := fun v h => hK.1 N2 v hN2 rfl ha2 hf2 h
        simp only [p_app] at k1
        refine ⟨fun q9 => k1 0 (fun q10 => ?_), fun q9 => k1 1 (fun q10 => ?_)⟩
        · have := p_is_not (hv2 q10); rw [if_neg q9] at this; exact this
        · have := p_is_not (hv2 q10); rw [if_pos q9] at this; exact this
      · simp only [] at ho hf2
        subst ho
        exact ⟨fun _ => hK.2 N2 0 hN2 rfl hf2, fun _ => hK.2 N2 1 hN2 rfl hf2⟩
    · rw [if_neg q, if_pos q2] at hK
      have e6 : zU M 119 36 (M 119 36 + 1) 119 36 = M 119 36 + 1 := zU_eq
      refine ih (d - 1) _ _ (by omega) (n_same_U hM (Or.inl rfl)) (by rw [e6]; omega) (by rw [e6]; omega) (by rw [zU_ne (by omega)]; exact hf) ?_
      rw [e6]
      unfold n_K at hK
      rw [p_app_1, p_app_3] at hK
      generalize p_thing H sub deep k (M 119 36 + 1) = res at *
      obtain ⟨a', c', ok⟩ := res
      refine ⟨fun N2 v2 hN2 ho ha2 hf2 hv2 => zi ?_, fun N2 v2 hN2 ho hf2 => zi ?_⟩
      · simp only [] at ho ha2 hv2
        subst ho
        exact hK.1 N2 _ hN2 rfl ha2 hf2 (fun q10 => p_is_neg (hv2 q10))
      · simp only [] at ho hf2
        subst ho
        exact hK.2 N2 _ hN2 rfl hf2
    · rw [if_neg q, if_neg q2] at hK
      exact m_rest (dep := dep) (by omega) hh hl hM ha hf (Or.inl q3) hK
    · rw [if_neg q, if_neg q2] at hK
      exact m_rest (dep := dep) (by omega) hh hl hM ha hf (Or.inr (by rw [hdeep]; simp; omega)) hK
    · rw [if_neg q, if_neg q2] at hK
      have hdt : deep = true := by rw [hdeep]; simp; omega
      have hlt : M 119 36 < m := by
        by_cases q5 : m ≤ M 119 36
        · have := hh.2.2.2 _ q5; omega
        · omega
      have e6 : zU M 119 36 (M 119 36 + 1) 119 36 = M 119 36 + 1 := zU_eq
      rw [zwi (x := M 119 36 + 1) (by omega) (by omega), zwi (x := dep + 1) (by omega) (by omega)]
      refine hsub hdt (d - 1) (by omega) _ _ (n_same_U hM (Or.inl rfl)) (by rw [e6]; omega) (by rw [zU_ne (by omega)]; exact hf) ?_
      rw [e6]
      have fx := hs (M 119 36 + 1) (by omega)
      have np := n_pos hs (a := M 119 36 + 1) (by omega)
      subst hdt
      unfold p_core at hK
      rw [if_neg (by omega), if_pos q3] at hK
      simp only [] at hK
      generalize sub (M 119 36 + 1) = res at *
      obtain ⟨a', c', ok⟩ := res
      refine ⟨fun N2 v2 hN2 ho ha2 hf2 hv2 => zi ?_, fun N2 v2 hN2 ho hf2 => zi ?_⟩
      · simp only [] at ho ha2 hv2 fx
        subst ho
        simp only [] at hK
        refine m_passes (by omega) hh hN2 (by omega) hf2 (by omega) (fun q5 hlt2 => zb1 ?_) (fun q5 => zb0 (m_isWrong (by omega) hf2 (zn ?_)))
        · rw [ha2] at q5 ⊢
          rw [if_pos q5] at hK
          exact hK.1 _ _ (n_same_U hN2 (Or.inl rfl)) rfl zU_eq (by rw [zU_ne (by omega)]; exact hf2) hv2
        · rw [ha2] at q5 ⊢
          rw [if_neg q5] at hK
          exact hK.2 _ _ (n_same_U hN2 (Or.inr rfl)) rfl zU_eq
      · simp only [] at ho hf2 np
        subst ho
        have nf : ¬ N2 119 37 = -1 := by rw [hf2]; exact np
        exact m_passes0 (by omega) nf (zb0 (m_isWrong0 (by omega) nf (zn (hK.2 N2 v2 hN2 rfl hf2))))
/-- the whole text -/
theorem m_read (hh : n_here H m μ0) (hl : n_let μ0 L g) : ∀ (r : Nat), r < 30 → ∀ d, 50 * (r / 5 + 1) + r % 5 ≤ d → n_call μ0 L m g d (188 - r % 5) [.inr (.inr ((0, 12), 119)), .inl (5 - (r / 5 : Nat))] (p_r H r)
  | 0, _, d, hd => by
    intro M K hM ha hf hK
    have hm := hh.1
    have h0 : p_fit H m (fun a => (a, [], false)) := fun a ha => ⟨by simp only []; omega, ha.2, by simp only [List.length_nil]; omega, fun q => by cases q⟩
    exact m_thing (D := 1) (deep := false) (dep := 5) (by omega) (by simp) hh hl h0 (fun q => by cases q) 41 d M K (by omega) hM ha (by omega) hf hK
  | r + 1, hr, d, hd => by
    have ih := m_read hh hl r (by omega)
    have hm := hh.1
    have hfit := p_r_fit hh.2.2.2 r
    by_cases q : (r + 1) % 5 = 0
    · intro M K hM ha hf hK
      simp only [p_r] at hK
      rw [if_pos q] at hK
      have e1 : 188 - (r + 1) % 5 = 188 := by omega
      have e2 : (5 - ((r + 1) / 5 : Nat) : Int) + 1 = 5 - ((r / 5 : Nat) : Int) := by omega
      have e3 : 188 - r % 5 = 184 := by omega
      rw [e1]
      rw [e3, ← e2] at ih
      exact m_thing (D := 50 * (r / 5 + 1) + r % 5) (deep := true) (dep := 5 - ((r + 1) / 5 : Nat)) (by omega) (by simp; omega) hh hl hfit (fun _ d' h => ih d' h) 41 d M K (by omega) hM ha (by omega) hf hK
    · have e4 : (r + 1) / 5 = r / 5 := by omega
      have ih2 := ih (d - 1) (by omega)
      have hr5 : (r + 1) % 5 = r % 5 + 1 := by omega
      intro M K hM ha hf hK
      simp only [p_r] at hK
      rw [if_neg q] at hK
      rw [e4]
      have : r % 5 = 0 ∨ r % 5 = 1 ∨ r % 5 = 2 ∨ r % 5 = 3 := by omega
      rcases this with h | h | h | h <;> rw [hr5, h] at hK ⊢ <;> rw [h] at ih2
      · exact m_sum (by omega) hh hfit ih2 M K hM ha hf hK
      · exact m_held (by omega) hh hfit ih2 M K hM ha hf hK
      · exact m_both (by omega) hh hfit ih2 M K hM ha hf hK
      · exact m_either (by omega) hh hfit ih2 M K hM ha hf hK
end
