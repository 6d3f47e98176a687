-- needs 20.walks 30 33 34 35 36 38 41 42 21.s06 21.s07
/-! THE REFERENCE READS THE TEXT as p_r does, and works it out -/
def n_same (μ' μ : zM) : Prop := (∀ j, ¬ j = 119 → μ' j = μ j) ∧ ∀ i, ¬ i = 36 → ¬ i = 37 → μ' 119 i = μ 119 i
def n_here (H : Int → Int) (m : Int) (μ : zM) : Prop := (0 ≤ m ∧ m ≤ 40) ∧ (μ 119 34 = 138 ∨ μ 119 34 = 139) ∧ (∀ i, 0 ≤ i → H i = if i < μ 119 35 ∧ i < 40 then μ (μ 119 34).toNat i else -1) ∧ ∀ i, m ≤ i → H i = -1
def n_K (μ0 : zM) (L : Int → Int) (res : zRes) (K : Option zV → zM → Prop) : Prop := (∀ M' v, n_same M' μ0 → res.2.2 = true → M' 119 36 = res.1 → M' 119 37 = -1 → (¬ μ0 119 38 = -1 → p_is L res.2.1 v) → K (some (.inl v)) M') ∧ (∀ M' v, n_same M' μ0 → res.2.2 = false → M' 119 37 = res.1 → K (some (.inl v)) M')
def n_call (μ0 : zM) (L : Int → Int) (m : Int) (g : zG) (d id : Nat) (args : List zV) (f : Int → zRes) : Prop := ∀ (M : zM) (K : Option zV → zM → Prop), n_same M μ0 → 0 ≤ M 119 36 ∧ M 119 36 ≤ m → M 119 37 = -1 → n_K μ0 L (f (M 119 36)) K → zCall g d id args M K
def n_let (μ0 : zM) (L : Int → Int) (g : zG) : Prop := ¬ μ0 119 38 = -1 → ∀ (d : Nat) (M : zM) (K : Option zV → zM → Prop) (c : Int), 1 ≤ d → n_same M μ0 → ¬ p_letter c = -1 → K (some (.inl (L (p_letter c)))) M → zCall g d 189 [.inr (.inr ((0, 12), 119)), .inl c] M K
section
variable {g : zG} {d : Nat} {K : Option zV → zM → Prop} {M μ0 : zM} {x m l : Int} {H L : Int → Int}
theorem n_same_U {i v : Int} (h : n_same M μ0) (hi : i = 36 ∨ i = 37) : n_same (zU M 119 i v) μ0 := ⟨fun j hj => by rw [zU_off j hj, h.1 j hj], fun k h1 h2 => by rw [zU_ne (by omega), h.2 k h1 h2]⟩
theorem m_here (hh : n_here H m μ0) (hM : n_same M μ0) (ha : 0 ≤ M 119 36) (h : K (some (.inl (H (M 119 36)))) M) : zCall g d 180 [.inr (.inr ((0, 12), 119))] M K := by
  obtain ⟨h1, h2, h3, h4⟩ := hh
  rw [h3 _ ha] at h
  have e34 := hM.2 34 (by omega) (by omega)
  have e35 := hM.2 35 (by omega) (by omega)
  refine sX12_here ⟨fun q => ?_, fun q => ⟨fun q2 => ?_, fun q2 => ?_⟩⟩
  · rw [if_neg (by omega)] at h; exact h
  · rw [if_neg (by omega)] at h; exact h
  · rw [if_pos (by omega)] at h
    rcases h2 with h2 | h2
    · rw [h2, show ((138 : Int)).toNat = 138 from rfl, ← hM.1 138 (by omega)] at h
      exact Or.inl ⟨by omega, by omega, h⟩
    · rw [h2, show ((139 : Int)).toNat = 139 from rfl, ← hM.1 139 (by omega)] at h
      exact Or.inr ⟨by omega, by omega, h⟩
theorem m_fine (h1 : M 119 37 = -1 → K (some (.inl 1)) M) (h0 : ¬ M 119 37 = -1 → K (some (.inl 0)) M) : zCall g d 181 [.inr (.inr ((0, 12), 119))] M K := sX12_fine ⟨h0, h1⟩
theorem m_isWrong (hd : 1 ≤ d) (hf : M 119 37 = -1) (h : K none (zU M 119 37 (M 119 36))) : zCall g d 182 [.inr (.inr ((0, 12), 119))] M K := sX12_isWrong ⟨hd, m_fine (fun _ => zb1 h) (fun q => absurd hf q)⟩
theorem m_isWrong0 (hd : 1 ≤ d) (hf : ¬ M 119 37 = -1) (h : K none M) : zCall g d 182 [.inr (.inr ((0, 12), 119))] M K := sX12_isWrong ⟨hd, m_fine (fun q => absurd q hf) (fun q => zb0 h)⟩
theorem m_passes (hd : 1 ≤ d) (hh : n_here H m μ0) (hM : n_same M μ0) (ha : 0 ≤ M 119 36 ∧ M 119 36 ≤ m) (hf : M 119 37 = -1) (hx : ¬ x = -1) (h1 : H (M 119 36) = x → M 119 36 < m → K (some (.inl 1)) (zU M 119 36 (M 119 36 + 1))) (h0 : ¬ H (M 119 36) = x → K (some (.inl 0)) M) : zCall g d 183 [.inr (.inr ((0, 12), 119)), .inl x] M K := by
  refine sX12_passes ⟨hd, m_fine (fun _ => zb1 (m_here hh hM ha.1 (zi ⟨fun q => ?_, fun q => h0 q⟩))) (fun q => absurd hf q)⟩
  have hlt : M 119 36 < m := by
    by_cases q2 : m ≤ M 119 36
    · rw [hh.2.2.2 _ q2] at q; exact absurd q.symm hx
    · omega
  have hm := hh.1
  rw [zwi (x := M 119 36 + 1) (by omega) (by omega)]
  exact h1 q hlt
theorem m_passes0 (hd : 1 ≤ d) (hf : ¬ M 119 37 = -1) (h0 : K (some (.inl 0)) M) : zCall g d 183 [.inr (.inr ((0, 12), 119)), .inl x] M K := sX12_passes ⟨hd, m_fine (fun q => absurd q hf) (fun _ => zb0 h0)⟩
theorem n_pos {f : Int → zRes} {a : Int} (hs : p_fit H m f) (ha : 0 ≤ a ∧ a ≤ m) : ¬ (f a).1 = -1 := by have := hs a ha; omega
/-- a loop over one sign -/
theorem p_join_0 {c : Int} : p_join c 0 = if c = 124 then -11 else 0 := by unfold p_join; (repeat' split) <;> omega
theorem p_join_1 {c : Int} : p_join c 1 = if c = 38 then -12 else 0 := by unfold p_join; (repeat' split) <;> omega
theorem p_join_2 {c : Int} : p_join c 2 = if c = 60 then -13 else if c = 62 then -14 else if c = 61 then -15 else 0 := by unfold p_join; (repeat' split) <;> omega
theorem p_join_3 {c : Int} : p_join c 3 = if c = 43 then -16 else if c = 45 then -17 else 0 := by unfold p_join; (repeat' split) <;> omega
theorem m_either {dep : Int} {sub : Int → zRes} (hd : 2 ≤ d) (hh : n_here H m μ0) (hs : p_fit H m sub) (hsub : n_call μ0 L m g (d - 1) 185 [.inr (.inr ((0, 12), 119)), .inl dep] sub) : n_call μ0 L m g d 184 [.inr (.inr ((0, 12), 119)), .inl dep] (p_level H 0 sub) := by
  intro M K hM ha hf hK
  have loop : ∀ (k : Nat) (a : Int) (c : List Int) (v : Int) (N : zM), m - a < k → 0 ≤ a ∧ a ≤ m → n_same N μ0 → N 119 36 = a → N 119 37 = -1 → (¬ μ0 119 38 = -1 → p_is L c v) → n_K μ0 L (p_more H 0 sub k a c) K → zT g d mX12_either K 6 [some (.inr (.inr ((0, 12), 119))), some (.inl dep), some (.inl v), none] [] N := by
    intro k
    induction k with
    | zero => intro a c v N h1 h2; omega
    | succ k ih =>
      intro a c v N h1 h2 hN hat hfN hv hKN
      simp only [p_more, p_join_0] at hKN
      refine sX12_either_6 ⟨by omega, m_passes (by omega) hh hN (by omega) hfN (by omega) (fun q hlt => zb1 ?_) (fun q => zb0 ?_)⟩
      · rw [hat] at q hlt
        rw [q] at hKN
        have fx := hs (a + 1) (by omega)
        have np := n_pos hs (a := a + 1) (by omega)
        rw [hat]
        have e6 : zU N 119 36 (a + 1) 119 36 = a + 1 := zU_eq
        refine hsub _ _ (n_same_U hN (Or.inl rfl)) (by rw [e6]; omega) (by rw [zU_ne (by omega)]; exact hfN) ?_
        rw [e6]
        simp only [if_pos, if_neg (show ¬ ((-11 : Int) = 0) by omega)] at hKN
        generalize hsr : sub (a + 1) = res at *
        obtain ⟨a', c', ok⟩ := res
        refine ⟨fun N2 v2 hN2 ho ha2 hf2 hv2 => zi ?_, fun N2 v2 hN2 ho hf2 => zi ?_⟩
        · simp only [] at ho fx ha2 hv2
          subst ho
          simp only [] at hKN
          have nx : ∀ w, w = r_bin (-11) v v2 → zT g d mX12_either K 6 [some (.inr (.inr ((0, 12), 119))), some (.inl dep), some (.inl w), none] [] N2 := by
            rintro w rfl
            exact ih a' (c ++ c' ++ [-11]) _ N2 (by omega) (by omega) hN2 ha2 hf2 (fun q9 => p_is_bin (by omega) (hv q9) (hv2 q9)) hKN
          refine ⟨fun q3 => nx 1 ?_, fun q3 => ⟨fun q4 => nx 0 ?_, fun q4 => nx 1 ?_⟩⟩
          all_goals (unfold r_bin; rw [if_pos rfl]; split <;> omega)
        · simp only [] at ho fx hf2 np
          subst ho
          simp only [] at hKN
          have nx : ∀ w, zT g d mX12_either K 6 [some (.inr (.inr ((0, 12), 119))), some (.inl dep), some (.inl w), none] [] N2 := fun w =>
            sX12_either_6 ⟨by omega, m_passes0 (by omega) (by rw [hf2]; exact np) (zb0 (hKN.2 N2 w hN2 rfl hf2))⟩
          exact ⟨fun q3 => nx 1, fun q3 => ⟨fun q4 => nx 0, fun q4 => nx 1⟩⟩
      · rw [hat] at q
        rw [if_neg q, if_pos rfl] at hKN
        exact hKN.1 N v hN rfl hat hfN hv
  have f0 := hs (M 119 36) ha
  have np := n_pos hs ha
  refine sX12_either ⟨by omega, hsub M _ hM ha hf ?_⟩
  simp only [p_level] at hK
  generalize hsr : sub (M 119 36) = res at *
  obtain ⟨a', c', ok⟩ := res
  have hm := hh.1
  refine ⟨fun N2 v2 hN2 ho ha2 hf2 hv2 => zi ?_, fun N2 v2 hN2 ho hf2 => zi ?_⟩
  · simp only [] at ho f0 ha2 hv2
    subst ho
    simp only [] at hK f0
    have := f0.2.2.2 trivial
    exact loop 40 a' c' v2 N2 (by omega) (by omega) hN2 ha2 hf2 hv2 hK
  · simp only [] at ho hf2 np
    subst ho
    exact sX12_either_6 ⟨by omega, m_passes0 (by omega) (by rw [hf2]; exact np) (zb0 (hK.2 N2 v2 hN2 rfl hf2))⟩
theorem m_both {dep : Int} {sub : Int → zRes} (hd : 2 ≤ d) (hh : n_here H m μ0) (hs : p_fit H m sub) (hsub : n_call μ0 L m g (d - 1) 186 [.inr (.inr ((0, 12), 119)), .inl dep] sub) : n_call μ0 L m g d 185 [.inr (.inr ((0, 12), 119)), .inl dep] (p_level H 1 sub) := by
  intro M K hM ha hf hK
  have loop : ∀ (k : Nat) (a : Int) (c : List Int) (v : Int) (N : zM), m - a < k → 0 ≤ a ∧ a ≤ m → n_same N μ0 → N 119 36 = a → N 119 37 = -1 → (¬ μ0 119 38 = -1 → p_is L c v) → n_K μ0 L (p_more H 1 sub k a c) K → zT g d mX12_both K 6 [some (.inr (.inr ((0, 12), 119))), some (.inl dep), some (.inl v), none] [] N := by
    intro k
    induction k with
    | zero => intro a c v N h1 h2; omega
    | succ k ih =>
      intro a c v N h1 h2 hN hat hfN hv hKN
      simp only [p_more, p_join_1] at hKN
      refine sX12_both_6 ⟨by omega, m_passes (by omega) hh hN (by omega) hfN (by omega) (fun q hlt => zb1 ?_) (fun q => zb0 ?_)⟩
      · rw [hat] at q hlt
        rw [q] at hKN
        have fx := hs (a + 1) (by omega)
        have np := n_pos hs (a := a + 1) (by omega)
        rw [hat]
        have e6 : zU N 119 36 (a + 1) 119 36 = a + 1 := zU_eq
        refine hsub _ _ (n_same_U hN (Or.inl rfl)) (by rw [e6]; omega) (by rw [zU_ne (by omega)]; exact hfN) ?_
        rw [e6]
        simp only [if_pos, if_neg (show ¬ ((-12 : Int) = 0) by omega)] at hKN
        generalize hsr : sub (a + 1) = res at *
        obtain ⟨a', c', ok⟩ := res
        refine ⟨fun N2 v2 hN2 ho ha2 hf2 hv2 => zi ?_, fun N2 v2 hN2 ho hf2 => zi ?_⟩
        · simp only [] at ho fx ha2 hv2
          subst ho
          simp only [] at hKN
          have nx : ∀ w, w = r_bin (-12) v v2 → zT g d mX12_both K 6 [some (.inr (.inr ((0, 12), 119))), some (.inl dep), some (.inl w), none] [] N2 := by
            rintro w rfl
            exact ih a' (c ++ c' ++ [-12]) _ N2 (by omega) (by omega) hN2 ha2 hf2 (fun q9 => p_is_bin (by omega) (hv q9) (hv2 q9)) hKN
          refine ⟨fun q3 => nx 0 ?_, fun q3 => ⟨fun q4 => nx 0 ?_, fun q4 => nx 1 ?_⟩⟩
          all_goals (unfold r_bin; rw [if_neg (by omega), if_pos rfl]; split <;> omega)
        · simp only [] at ho fx hf2 np
          subst ho
          simp only [] at hKN
          have nx : ∀ w, zT g d mX12_both K 6 [some (.inr (.inr ((0, 12), 119))), some (.inl dep), some (.inl w), none] [] N2 := fun w =>
            sX12_both_6 ⟨by omega, m_passes0 (by omega) (by rw [hf2]; exact np) (zb0 (hKN.2 N2 w hN2 rfl hf2))⟩
          exact ⟨fun q3 => nx 0, fun q3 => ⟨fun q4 => nx 0, fun q4 => nx 1⟩⟩
      · rw [hat] at q
        rw [if_neg q, if_pos rfl] at hKN
        exact hKN.1 N v hN rfl hat hfN hv
  have f0 := hs (M 119 36) ha
  have np := n_pos hs ha
  refine sX12_both ⟨by omega, hsub M _ hM ha hf ?_⟩
  simp only [p_level] at hK
  generalize hsr : sub (M 119 36) = res at *
  obtain ⟨a', c', ok⟩ := res
  have hm := hh.1
  refine ⟨fun N2 v2 hN2 ho ha2 hf2 hv2 => zi ?_, fun N2 v2 hN2 ho hf2 => zi ?_⟩
  · simp only [] at ho f0 ha2 hv2
    subst ho
    simp only [] at hK f0
    have := f0.2.2.2 trivial
    exact loop 40 a' c' v2 N2 (by omega) (by omega) hN2 ha2 hf2 hv2 hK
  · simp only [] at ho hf2 np
    subst ho
    exact sX12_both_6 ⟨by omega, m_passes0 (by omega) (by rw [hf2]; exact np) (zb0 (hK.2 N2 v2 hN2 rfl hf2))⟩
theorem m_sum {dep : Int} {sub : Int → zRes} (hd : 2 ≤ d) (hh : n_here H m μ0) (hs : p_fit H m sub) (hsub : n_call μ0 L m g (d - 1) 188 [.inr (.inr ((0, 12), 119)), .inl dep] sub) : n_call μ0 L m g d 187 [.inr (.inr ((0, 12), 119)), .inl dep] (p_level H 3 sub) := by
  intro M K hM ha hf hK
  have hm := hh.1
  have stop : ∀ (N : zM) (w : Int), ¬ N 119 37 = -1 → K (some (.inl w)) N → zT g d mX12_sum K 6 [some (.inr (.inr ((0, 12), 119))), some (.inl dep), some (.inl w), none, none] [] N := fun N w h1 h2 =>
    sX12_sum_6 ⟨by omega, m_fine (fun q => absurd q h1) (fun _ => zb0 h2)⟩
  have loop : ∀ (k : Nat) (a : Int) (c : List Int) (v : Int) (N : zM), m - a < k → 0 ≤ a ∧ a ≤ m → n_same N μ0 → N 119 36 = a → N 119 37 = -1 → (¬ μ0 119 38 = -1 → p_is L c v) → n_K μ0 L (p_more H 3 sub k a c) K → zT g d mX12_sum K 6 [some (.inr (.inr ((0, 12), 119))), some (.inl dep), some (.inl v), none, none] [] N := by
    intro k
    induction k with
    | zero => intro a c v N h1 h2; omega
    | succ k ih =>
      intro a c v N h1 h2 hN hat hfN hv hKN
      simp only [p_more, p_join_3] at hKN
      have go : ∀ x, (H a = 43 ∧ x = -16 ∨ H a = 45 ∧ x = -17) → zT g d mX12_sum K 31 [some (.inr (.inr ((0, 12), 119))), some (.inl dep), some (.inl v), none, none] [] N := by
        intro x hx
        have hlt : a < m := by
          by_cases q2 : m ≤ a
          · have := hh.2.2.2 _ q2; omega
          · omega
        have hjx : (if H a = 43 then (-16 : Int) else if H a = 45 then -17 else 0) = x := by
          rcases hx with ⟨h1, rfl⟩ | ⟨h1, rfl⟩
          · rw [if_pos h1]
          · rw [if_neg (by omega), if_pos h1]
        rw [hjx, if_neg (by omega)] at hKN
        have fx := hs (a + 1) (by omega)
        have np := n_pos hs (a := a + 1) (by omega)
        have e6 : zU N 119 36 (a + 1) 119 36 = a + 1 := zU_eq
        have call : ∀ (op : Int → Int), (∀ v2, op v2 = r_bin x v v2) → zCall g (d - 1) 188 [.inr (.inr ((0, 12), 119)), .inl dep] (zU N 119 36 (zw (N 119 36 + 1))) (zIi fun r4 μ3 => zT g d mX12_sum K 6 [some (.inr (.inr ((0, 12), 119))), some (.inl dep), some (.inl (op r4)), none, none] [] μ3) := by
          intro op hop
          rw [hat, zwi (x := a + 1) (by omega) (by omega)]
          refine hsub _ _ (n_same_U hN (Or.inl rfl)) (by rw [e6]; omega) (by rw [zU_ne (by omega)]; exact hfN) ?_
          rw [e6]
          generalize hsr : sub (a + 1) = res at *
          obtain ⟨a', c', ok⟩ := res
          refine ⟨fun N2 v2 hN2 ho ha2 hf2 hv2 => zi ?_, fun N2 v2 hN2 ho hf2 => zi ?_⟩
          · simp only [] at ho fx ha2 hv2
            subst ho
            simp only [] at hKN
            rw [hop]
            exact ih a' (c ++ c' ++ [x]) _ N2 (by omega) (by omega) hN2 ha2 hf2 (fun q9 => p_is_bin (by omega) (hv q9) (hv2 q9)) hKN
          · simp only [] at ho fx hf2 np
            subst ho
            simp only [] at hKN
            exact stop N2 _ (by rw [hf2]; exact np) (hKN.2 N2 _ hN2 rfl hf2)
        refine sX12_sum_31 ⟨by omega, m_here hh hN (by omega) (zi ⟨fun q => ?_, fun q => ?_⟩)⟩
        · rw [hat] at q
          rcases hx with ⟨h1, rfl⟩ | ⟨h1, rfl⟩
          · exact absurd h1 q
          · exact call _ (fun v2 => by simp [r_bin])
        · rw [hat] at q
          rcases hx with ⟨h1, rfl⟩ | ⟨h1, rfl⟩
          · exact call _ (fun v2 => by simp [r_bin])
          · omega
      refine sX12_sum_6 ⟨by omega, m_fine (fun _ => zb1 (m_here hh hN (by omega) (zi ⟨fun q => go (-16) (Or.inl ⟨by rw [← hat]; exact q, rfl⟩), fun q => m_here hh hN (by omega) (zi ⟨fun q2 => ?_, fun q2 => go (-17) (Or.inr ⟨by rw [← hat]; exact q2, rfl⟩)⟩)⟩))) (fun q => absurd hfN q)⟩
      rw [hat] at q q2
      rw [if_neg q, if_neg q2, if_pos rfl] at hKN
      exact hKN.1 N v hN rfl hat hfN hv
  have f0 := hs (M 119 36) ha
  have np := n_pos hs ha
  refine sX12_sum ⟨by omega, hsub M _ hM ha hf ?_⟩
  simp only [p_level] at hK
  generalize hsr : sub (M 119 36) = res at *
  obtain ⟨a', c', ok⟩ := res
  refine ⟨fun N2 v2 hN2 ho ha2 hf2 hv2 => zi ?_, fun N2 v2 hN2 ho hf2 => zi ?_⟩
  · simp only [] at ho f0 ha2 hv2
    subst ho
    simp only [] at hK f0
    have := f0.2.2.2 trivial
    exact loop 40 a' c' v2 N2 (by omega) (by omega) hN2 ha2 hf2 hv2 hK
  · simp only [] at ho hf2 np
    subst ho
    exact stop N2 v2 (by rw [hf2]; exact np) (hK.2 N2 v2 hN2 rfl hf2)
theorem m_held {dep : Int} {sub : Int → zRes} (hd : 2 ≤ d) (hh : n_here H m μ0) (hs : p_fit H m sub) (hsub : n_call μ0 L m g (d - 1) 187 [.inr (.inr ((0, 12), 119)), .inl dep] sub) : n_call μ0 L m g d 186 [.inr (.inr ((0, 12), 119)), .inl dep] (p_level H 2 sub) := by
  intro M K hM ha hf hK
  have f0 := hs (M 119 36) ha
  have np := n_pos hs ha
  refine sX12_held ⟨by omega, hsub M _ hM ha hf ?_⟩
  simp only [p_level] at hK
  generalize hsr : sub (M 119 36) = res at *
  obtain ⟨a, c, ok⟩ := res
  refine ⟨fun N v hN ho hat hfN hv => zi ?_, fun N2 v2 hN2 ho hf2 => zi ?_⟩
  · simp only [] at ho f0 hat hv
    subst ho
    simp only [] at hK
    have hK2 : n_K μ0 L (p_more H 2 sub 1 a c) K := hK
    simp only [p_more, p_join_2] at hK2
    have call : ∀ x, H a < m + 200 → a < m → (if H a = 60 then (-13 : Int) else if H a = 62 then -14 else if H a = 61 then -15 else 0) = x → (-15 ≤ x ∧ x ≤ -13) → ∀ F : Int → zM → Prop, (∀ v2 N2, K (some (.inl (r_bin x v v2))) N2 → F v2 N2) → (∀ v2 N2, (∀ w, K (some (.inl w)) N2) → F v2 N2) → zCall g (d - 1) 187 [.inr (.inr ((0, 12), 119)), .inl dep] (zU N 119 36 (N 119 36 + 1)) (zIi F) := by
      intro x _ hlt hx hb F hF1 hF2
      rw [hx, if_neg (by omega)] at hK2
      have fx := hs (a + 1) (by omega)
      have e6 : zU N 119 36 (a + 1) 119 36 = a + 1 := zU_eq
      rw [hat]
      refine hsub _ _ (n_same_U hN (Or.inl rfl)) (by rw [e6]; omega) (by rw [zU_ne (by omega)]; exact hfN) ?_
      rw [e6]
      generalize hsr2 : sub (a + 1) = res at *
      obtain ⟨a', c', ok⟩ := res
      refine ⟨fun N2 v2 hN2 ho ha2 hf2 hv2 => zi (hF1 v2 N2 ?_), fun N2 v2 hN2 ho hf2 => zi (hF2 v2 N2 fun w => ?_)⟩
      · simp only [] at ho ha2 hv2
        subst ho
        exact hK2.1 N2 _ hN2 rfl ha2 hf2 (fun q9 => p_is_bin (by omega) (hv q9) (hv2 q9))
      · simp only [] at ho hf2
        subst ho
        exact hK2.2 N2 w hN2 rfl hf2
    have kk : ∀ {v2 w w' : Int} {N2 : zM}, K (some (.inl w)) N2 → w' = w → K (some (.inl w')) N2 := fun h e => e ▸ h
    refine m_passes (by omega) hh hN (by omega) hfN (by omega) (fun q hlt => zb1 ?_) (fun q => zb0 ?_)
    · rw [hat] at q hlt
      refine call (-13) (by omega) hlt (by rw [if_pos q]) (by omega) _ (fun v2 N2 h => ⟨fun q3 => ?_, fun q3 => ?_⟩) (fun v2 N2 h => ⟨fun q3 => h 0, fun q3 => h 1⟩)
      · refine k_int h ?_; simp only [r_bin]; rw [if_neg (by omega), if_neg (by omega), if_pos trivial, if_neg (by omega)]
      · refine k_int h ?_; simp only [r_bin]; rw [if_neg (by omega), if_neg (by omega), if_pos trivial, if_pos (by omega)]
    · rw [hat] at q
      refine m_passes (by omega) hh hN (by omega) hfN (by omega) (fun q2 hlt => zb1 ?_) (fun q2 => zb0 ?_)
      · rw [hat] at q2 hlt
        refine call (-14) (by omega) hlt (by rw [if_neg q, if_pos q2]) (by omega) _ (fun v2 N2 h => ⟨fun q3 => ?_, fun q3 => ?_⟩) (fun v2 N2 h => ⟨fun q3 => h 0, fun q3 => h 1⟩)
        · refine k_int h ?_; simp only [r_bin]; rw [if_neg (by omega), if_neg (by omega), if_neg (by omega), if_pos trivial, if_neg (by omega)]
        · refine k_int h ?_; simp only [r_bin]; rw [if_neg (by omega), if_neg (by omega), if_neg (by omega), if_pos trivial, if_pos (by omega)]
      · rw [hat] at q2
        refine m_passes (by omega) hh hN (by omega) hfN (by omega) (fun q3 hlt => zb1 ?_) (fun q3 => zb0 ?_)
        · rw [hat] at q3 hlt
          refine call (-15) (by omega) hlt (by rw [if_neg q, if_neg q2, if_pos q3]) (by omega) _ (fun v2 N2 h => ⟨fun q4 => ?_, fun q4 => ?_⟩) (fun v2 N2 h => ⟨fun q4 => h 0, fun q4 => h 1⟩)
          · refine k_int h ?_; simp only [r_bin]; rw [if_neg (by omega), if_neg (by omega), if_neg (by omega), if_neg (by omega), if_pos trivial, if_neg (by omega)]
          · refine k_int h ?_; simp only [r_bin]; rw [if_neg (by omega), if_neg (by omega), if_neg (by omega), if_neg (by omega), if_pos trivial, if_pos (by omega)]
        · rw [hat] at q3
          rw [if_neg q, if_neg q2, if_neg q3, if_pos rfl] at hK2
          exact hK2.1 N v hN rfl hat hfN hv
  · simp only [] at ho hf2 np
    subst ho
    have nf : ¬ N2 119 37 = -1 := by rw [hf2]; exact np
    exact m_passes0 (by omega) nf (zb0 (m_passes0 (by omega) nf (zb0 (m_passes0 (by omega) nf (zb0 (hK.2 N2 v2 hN2 rfl hf2))))))
end
