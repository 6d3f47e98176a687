-- needs 98
/-! rule: the text is looked at from 0 on alone; the reference's call -/
def p_cu (f f' : Int → zRes) : Prop := ∀ a, 0 ≤ a → f a = f' a ∧ a ≤ (f a).1
section
variable {H H' : Int → Int} {sub sub' : Int → zRes} {l : Int} {deep : Bool}
theorem p_more_cu (hH : ∀ i, 0 ≤ i → H i = H' i) (hs : p_cu sub sub') : ∀ (k : Nat) (a : Int) (c : List Int), 0 ≤ a → p_more H l sub k a c = p_more H' l sub' k a c ∧ a ≤ (p_more H l sub k a c).1
  | 0, a, c, h => ⟨rfl, by simp only [p_more]; omega⟩
  | k + 1, a, c, h => by
    simp only [p_more]
    rw [hH a h]
    by_cases q : p_join (H' a) l = 0
    · rw [if_pos q, if_pos q]
      exact ⟨rfl, by simp only []; omega⟩
    · rw [if_neg q, if_neg q]
      have h1 := hs (a + 1) (by omega)
      rw [← h1.1]
      generalize sub (a + 1) = r at *
      obtain ⟨a', c', ok⟩ := r
      have h2 : a + 1 ≤ a' := h1.2
      cases ok
      · exact ⟨rfl, by simp only []; omega⟩
      · have ih := p_more_cu hH hs k a' (c ++ c' ++ [p_join (H' a) l]) (by omega)
        simp only []
        exact ⟨ih.1, by omega⟩
theorem p_level_cu (hH : ∀ i, 0 ≤ i → H i = H' i) (hs : p_cu sub sub') : p_cu (p_level H l sub) (p_level H' l sub') := by
  intro a h
  have h1 := hs a h
  simp only [p_level]
  rw [← h1.1]
  generalize sub a = r at *
  obtain ⟨a', c', ok⟩ := r
  have h2 : a ≤ a' := h1.2
  cases ok
  · exact ⟨rfl, h2⟩
  · have := p_more_cu (l := l) hH hs (p_most l) a' c' (by omega)
    simp only []
    exact ⟨this.1, by omega⟩
theorem p_num_cu (hH : ∀ i, 0 ≤ i → H i = H' i) : ∀ (k : Nat) (a v : Int), 0 ≤ a → p_num H k a v = p_num H' k a v ∧ a ≤ (p_num H k a v).1
  | 0, a, v, h => ⟨rfl, by simp only [p_num]; omega⟩
  | k + 1, a, v, h => by
    simp only [p_num]
    rw [hH a h]
    by_cases q : 48 ≤ H' a ∧ H' a ≤ 57
    · rw [if_pos q, if_pos q]
      have := p_num_cu hH k (a + 1) (v * 10 + H' a - 48) (by omega)
      exact ⟨this.1, by omega⟩
    · rw [if_neg q, if_neg q]
      exact ⟨rfl, by simp only []; omega⟩
theorem p_core_cu (hH : ∀ i, 0 ≤ i → H i = H' i) (hs : p_cu sub sub') : p_cu (p_core H sub deep) (p_core H' sub' deep) := by
  intro a h
  have n3 := p_num_cu hH 3 a 0 h
  unfold p_core
  rw [← n3.1, ← hH a h]
  by_cases q : 48 ≤ H a ∧ H a ≤ 57
  · rw [if_pos q, if_pos q]
    exact ⟨rfl, n3.2⟩
  · rw [if_neg q, if_neg q]
    by_cases q2 : H a = 40
    · rw [if_pos q2, if_pos q2]
      cases deep
      · exact ⟨rfl, by simp only []; omega⟩
      · have h1 := hs (a + 1) (by omega)
        simp only []
        rw [← h1.1]
        generalize sub (a + 1) = r at *
        obtain ⟨a', c', ok⟩ := r
        have h2 : a + 1 ≤ a' := h1.2
        cases ok
        · exact ⟨rfl, by simp only []; omega⟩
        · simp only []
          rw [← hH a' (by omega)]
          refine ⟨rfl, ?_⟩
          split <;> simp only [] <;> omega
    · rw [if_neg q2, if_neg q2]
      refine ⟨rfl, ?_⟩
      split <;> simp only [] <;> omega
theorem p_thing_cu (hH : ∀ i, 0 ≤ i → H i = H' i) (hs : p_cu sub sub') : ∀ k : Nat, p_cu (p_thing H sub deep k) (p_thing H' sub' deep k)
  | 0 => p_core_cu hH hs
  | k + 1 => by
    intro a h
    have ih := p_thing_cu hH hs k (a + 1) (by omega)
    have co := p_core_cu (deep := deep) hH hs a h
    have ap : ∀ (x : Int) (q : zRes), a + 1 ≤ q.1 → a ≤ (p_app x q).1 := by
      intro x q hq
      rw [p_app_1]
      omega
    simp only [p_thing]
    rw [← hH a h, ← ih.1, ← co.1]
    refine ⟨rfl, ?_⟩
    split
    · exact ap _ _ ih.2
    · split
      · exact ap _ _ ih.2
      · exact co.2
theorem p_r_cu (hH : ∀ i, 0 ≤ i → H i = H' i) : ∀ r : Nat, p_cu (p_r H r) (p_r H' r)
  | 0 => p_thing_cu hH (fun a h => ⟨rfl, by simp only []; omega⟩) 41
  | r + 1 => by
    have ih := p_r_cu hH r
    simp only [p_r]
    by_cases q : (r + 1) % 5 = 0
    · rw [if_pos q, if_pos q]
      exact p_thing_cu hH ih 41
    · rw [if_neg q, if_neg q]
      exact p_level_cu hH ih
end
def s8 (v : Int) : Int := if v < 128 then v else v - 256
def ru_H (t : List Int) : Int → Int := p_H (fun i => s8 (t.getD i.toNat 0)) (t.length : Int)
def ru_Y (Y : zM) (c : List Int) : zM := fun k i => if k = 14 then y_cl (c.length : Int) (fun j => c.getD j.toNat 0) i else if k = 15 then (c.length : Int) else Y k i
def o_rule (S : zS) : Int × zS :=
  if S.2.1 = [] then (0, sT (sY S (ru_Y S.1 [])) [])
  else if (p_r (ru_H S.2.1) 29 0).2.2 = true ∧ (S.2.1.length : Int) ≤ (p_r (ru_H S.2.1) 29 0).1 then (0, sT (sY S (ru_Y S.1 (p_r (ru_H S.2.1) 29 0).2.1)) [])
  else (-1 - (p_r (ru_H S.2.1) 29 0).1, sT S [])
theorem ru_H_end (t : List Int) : ∀ i, min (t.length : Int) 40 ≤ i → ru_H t i = -1 := by
  intro i hi
  unfold ru_H p_H
  rw [if_neg (by omega)]
section
variable {g : zG} {d : Nat} {K : Option zV → zM → Prop} {μ : zM} {nn : Int} {S : zS}
/-- the reference's yard with another rule -/
theorem mY_ru {μ' Y : zM} {c : List Int} (h : mY μ Y) (e1 : ∀ j, 120 ≤ j → j ≤ 131 → μ' j = μ j) (e2 : ∀ i, i = 0 ∨ i = 6 ∨ 14 ≤ i ∧ i ≤ 17 ∨ i = 42 → μ' 119 i = μ 119 i) (hr : zRu (μ' 138) (μ' 119 28) (ru_Y Y c 14) (c.length : Int)) : mY μ' (ru_Y Y c) := by
  obtain ⟨h1, h2, h3⟩ := h
  have e15 : ru_Y Y c 15 0 = (c.length : Int) := by unfold ru_Y; simp
  refine ⟨?_, by rw [e15]; exact hr, by rw [e2 42 (by omega)]; exact h3⟩
  rw [e15, vM_same e1 (fun i hi => e2 i (by omega))]
  funext k i
  have hk := congrFun (congrFun h1 k) i
  unfold ru_Y
  by_cases q14 : k = 14
  · subst q14
    rw [if_pos rfl]
    simp only [vM]
    unfold y_cl
    by_cases q : 0 ≤ i ∧ i < (c.length : Int)
    · simp [q.1, q.2]
    · rw [if_neg q, if_neg q]
  · by_cases q15 : k = 15
    · subst q15
      rw [if_neg (by omega), if_pos rfl]
      simp only [vM]
    · rw [if_neg q14, if_neg q15, ← hk]
      match k with
      | 0 => simp only [vM]
      | 1 => simp only [vM]
      | 2 => simp only [vM]
      | 3 => simp only [vM]
      | 4 => simp only [vM]
      | 5 => simp only [vM]
      | 6 => simp only [vM]
      | 7 => simp only [vM]
      | 8 => simp only [vM]
      | 9 => simp only [vM]
      | 10 => simp only [vM]
      | 11 => simp only [vM]
      | 12 => simp only [vM]
      | 13 => simp only [vM]
      | 14 => exact absurd rfl q14
      | 15 => exact absurd rfl q15
      | k + 16 => simp only [vM]
theorem M_rule (hd : 340 ≤ d) (hC : mS μ S) (hI : iS nn S) (h : ∀ μ', zEd μ' μ → mS μ' (o_rule S).2 → K (some (.inl (o_rule S).1)) μ') : zCall g d 190 [.inr (.inr ((0, 12), 119))] μ K := by
  have hT := hC.2.1
  have iT' := hI.2.2.1
  unfold o_rule at h
  obtain ⟨t, ht⟩ : ∃ t, S.2.1 = t := ⟨_, rfl⟩
  rw [ht] at h hT iT'
  generalize hM0 : zU (zU (zU (zU (zU (zU (zU μ 119 33 0) 119 34 139) 119 35 (μ 119 30)) 119 36 0) 119 37 (-1)) 119 38 (-1)) 119 30 0 = M0
  have tl : μ 119 30 = (t.length : Int) := hT.1
  have m34 : M0 119 34 = 139 := by rw [← hM0]; simp [zU]
  have m35 : M0 119 35 = (t.length : Int) := by rw [← hM0, ← tl]; simp [zU]
  have m36 : M0 119 36 = 0 := by rw [← hM0]; simp [zU]
  have m37 : M0 119 37 = -1 := by rw [← hM0]; simp [zU]
  have m38 : M0 119 38 = -1 := by rw [← hM0]; simp [zU]
  have m30 : M0 119 30 = 0 := by rw [← hM0]; simp [zU]
  have hE : ∀ j, ¬ j = 119 → M0 j = μ j := fun j hj => by rw [← hM0, zU_off j hj, zU_off j hj, zU_off j hj, zU_off j hj, zU_off j hj, zU_off j hj, zU_off j hj]
  have hE9 : ∀ i, ¬ (i = 30 ∨ (33 ≤ i ∧ i ≤ 40)) → M0 119 i = μ 119 i := fun i hi => by rw [← hM0, zU_ne (by omega), zU_ne (by omega), zU_ne (by omega), zU_ne (by omega), zU_ne (by omega), zU_ne (by omega), zU_ne (by omega)]
  have clear : ∀ N : zM, (∀ j, ¬ j = 119 → N j = μ j) → (∀ i, ¬ (i = 30 ∨ (33 ≤ i ∧ i ≤ 40)) → N 119 i = μ 119 i) → N 119 30 = 0 → mS N (sT S []) := by
    intro N h1 h2 h3
    obtain ⟨a1, a2, a3, a4, a5, a6, a7⟩ := hC
    exact ⟨a1.same (fun j _ _ => h1 j (by omega)) (fun i hi => h2 i (by omega)) (h1 138 (by omega)), ⟨h3, fun k v hv => by have hv : ([] : List Int)[k]? = some v := hv; simp at hv⟩, a3.same (h2 32 (by omega)) (h1 140 (by omega)), a4.same (h2 23 (by omega)) (h2 25 (by omega)) (h1 136 (by omega)) (h1 137 (by omega)), a5.same (fun j _ _ => h1 j (by omega)), a6.same (h2 18 (by omega)) (fun j _ _ => h1 j (by omega)), a7.same (h2 74 (by omega)) (fun j _ _ => h1 j (by omega))⟩
  -- the new rule is laid down
  have lay : ∀ (c : List Int) (N : zM), (∀ j, ¬ j = 119 → N j = μ j) → (∀ i, ¬ (i = 30 ∨ (33 ≤ i ∧ i ≤ 40)) → N 119 i = μ 119 i) → N 119 30 = 0 → t.length ≤ 40 → ((t = [] ∧ c = []) ∨ (¬ t = [] ∧ p_r (ru_H t) 29 0 = ((t.length : Int), c, true))) → (∀ μ', zEd μ' μ → mS μ' (sT (sY S (ru_Y S.1 c)) []) → K (some (.inl 0)) μ') → zT g d mX12_rule K 91 [some (.inr (.inr ((0, 12), 119))), some (.inl (t.length : Int)), some (.inl 0)] [] N := by
    intro c N h1 h2 h3 h40 hc hK
    have lp : ∀ (k i : Nat) (M : zM), i + k = t.length → (∀ j, ¬ (j = 119 ∨ j = 138) → M j = μ j) → M 119 = N 119 → (∀ x : Int, 0 ≤ x ∧ x < (i : Int) → M 138 x = μ 139 x) → zT g d mX12_rule K 91 [some (.inr (.inr ((0, 12), 119))), some (.inl (t.length : Int)), some (.inl (i : Int))] [] M := by
      intro k
      induction k with
      | zero =>
        intro i M hi g1 g2 g3
        refine sX12_rule_91 ⟨fun _ => ?_, fun q => by omega⟩
        have e9 : ∀ i, ¬ (i = 28 ∨ i = 30 ∨ (33 ≤ i ∧ i ≤ 40)) → zU M 119 28 (t.length : Int) 119 i = μ 119 i := fun i hi => by rw [zU_ne (by omega), g2]; exact h2 i (by omega)
        have ej : ∀ j, ¬ (j = 119 ∨ j = 138) → zU M 119 28 (t.length : Int) j = μ j := fun j hj => by rw [zU_off j (by omega)]; exact g1 j hj
        refine hK _ (fun j hj => ej j (by omega)) ?_
        obtain ⟨a1, a2, a3, a4, a5, a6, a7⟩ := hC
        refine ⟨mY_ru a1 (fun j _ _ => ej j (by omega)) (fun i hi => e9 i (by omega)) ?_, ⟨by rw [zU_ne (by omega), g2]; exact h3, fun k v hv => by have hv : ([] : List Int)[k]? = some v := hv; simp at hv⟩, a3.same (e9 32 (by omega)) (ej 140 (by omega)), a4.same (e9 23 (by omega)) (e9 25 (by omega)) (ej 136 (by omega)) (ej 137 (by omega)), a5.same (fun j _ _ => ej j (by omega)), a6.same (e9 18 (by omega)) (fun j _ _ => ej j (by omega)), a7.same (e9 74 (by omega)) (fun j _ _ => ej j (by omega))⟩
        rw [zU_eq, zU_off 138 (by omega)]
        rcases hc with ⟨hc1, hc2⟩ | ⟨hc1, hc2⟩
        · subst hc1 hc2
          exact Or.inl ⟨rfl, rfl⟩
        · have tp : 0 < t.length := by
            rcases Nat.eq_zero_or_pos t.length with z | z
            · exact absurd (List.eq_nil_of_length_eq_zero z) hc1
            · exact z
          refine Or.inr ⟨c, ⟨by omega, by omega⟩, ?_, rfl, rfl, fun i hi => ?_⟩
          · rw [← hc2]
            refine (p_r_cu (fun i hi0 => ?_) 29 0 (by omega)).1
            unfold ru_H p_H
            by_cases q : i < (t.length : Int) ∧ i < 40
            · rw [if_pos q, if_pos q, g3 i (by omega)]
              have lt : i.toNat < t.length := by omega
              have := hT.2 i.toNat (t.getD i.toNat 0) (by rw [List.getD_eq_getElem?_getD, List.getElem?_eq_getElem lt]; rfl)
              rw [show ((i.toNat : Nat) : Int) = i from by omega] at this
              rw [this]
              rfl
            · rw [if_neg q, if_neg q]
          · unfold ru_Y y_cl
            rw [if_pos rfl, if_pos (by omega)]
            show c.getD ((i : Int)).toNat 0 = c.getD i 0
            rw [show ((i : Int)).toNat = i from by omega]
      | succ k ih =>
        intro i M hi g1 g2 g3
        have lt : i < t.length := by omega
        have b := iT'.2 (t.getD i 0) (by rw [List.getD_eq_getElem?_getD, List.getElem?_eq_getElem lt]; exact List.getElem_mem lt)
        have e := hT.2 i (t.getD i 0) (by rw [List.getD_eq_getElem?_getD, List.getElem?_eq_getElem lt]; rfl)
        have bb : -128 ≤ μ 139 (i : Int) ∧ μ 139 (i : Int) ≤ 127 := by rw [e]; split <;> omega
        refine sX12_rule_91 ⟨fun q => by omega, fun _ => ⟨by omega, by omega, by rw [g1 139 (by omega)]; exact bb, ?_⟩⟩
        rw [zw_suc (by omega)]
        refine ih (i + 1) _ (by omega) (fun j hj => by rw [zU_off j (by omega)]; exact g1 j hj) (by rw [zU_off 119 (by omega)]; exact g2) (fun x hx => ?_)
        by_cases q : x = (i : Int)
        · subst q
          rw [zU_eq, g1 139 (by omega)]
        · rw [zU_ne (by omega)]
          exact g3 x (by omega)
    exact lp t.length 0 N (by omega) (fun j hj => h1 j (by omega)) rfl (fun x hx => by omega)
  refine sX12_rule ⟨fun q => ?_, fun q => ⟨by omega, ?_⟩⟩
  · rw [hM0, tl]
    have t0 : t = [] := List.eq_nil_of_length_eq_zero (by omega)
    rw [if_pos t0] at h
    exact lay [] M0 hE hE9 m30 (by omega) (Or.inl ⟨t0, rfl⟩) h
  · rw [hM0, tl]
    have t0 : ¬ t = [] := fun q2 => by rw [q2] at tl; simp at tl; omega
    rw [if_neg t0] at h
    have tl60 := iT'.1
    have hh : n_here (ru_H t) (min (t.length : Int) 40) M0 := by
      refine ⟨by omega, Or.inr m34, fun i hi => ?_, ru_H_end t⟩
      rw [m35, m34, show ((139 : Int)).toNat = 139 from rfl, hE 139 (by omega)]
      unfold ru_H p_H
      by_cases q : i < (t.length : Int) ∧ i < 40
      · rw [if_pos q, if_pos q]
        have lt : i.toNat < t.length := by omega
        have := hT.2 i.toNat (t.getD i.toNat 0) (by rw [List.getD_eq_getElem?_getD, List.getElem?_eq_getElem lt]; rfl)
        rw [show ((i.toNat : Nat) : Int) = i from by omega] at this
        rw [this]
        rfl
      · rw [if_neg q, if_neg q]
    have hl : n_let M0 (fun _ => 0) g := fun q => absurd m38 q
    have fit := p_r_fit (H := ru_H t) (m := min (t.length : Int) 40) (ru_H_end t) 29 0 (by omega)
    have call := m_read (d := d - 1) hh hl 29 (by omega) (by omega)
    refine call M0 _ ⟨fun _ _ => rfl, fun _ _ _ => rfl⟩ (by omega) m37 ?_
    rw [m36]
    generalize hq : p_r (ru_H t) 29 0 = res at *
    obtain ⟨a, c, ok⟩ := res
    simp only [] at fit h
    have fr : ∀ N, n_same N M0 → (∀ j, ¬ j = 119 → N j = μ j) ∧ (∀ i, ¬ (i = 30 ∨ (33 ≤ i ∧ i ≤ 40)) → N 119 i = μ 119 i) ∧ N 119 30 = 0 := fun N hN => ⟨fun j hj => by rw [hN.1 j hj, hE j hj], fun i hi => by rw [hN.2 i (by omega) (by omega), hE9 i hi], by rw [hN.2 30 (by omega) (by omega)]; exact m30⟩
    refine ⟨fun N v hN ho h36 h37 _ => zi ?_, fun N v hN ho h37 => zi ?_⟩
    · have ho : ok = true := ho
      have h36 : N 119 36 = a := h36
      obtain ⟨f1, f2, f3⟩ := fr N hN
      refine m_fine (fun _ => zb1 ⟨fun q1 => m_fine (fun _ => zb1 ?_) (fun q2 => absurd h37 q2), fun q1 => m_isWrong (by omega) h37 (zn (m_fine (fun q2 => ?_) (fun _ => zb0 ?_)))⟩) (fun q2 => absurd h37 q2)
      · rw [if_pos ⟨ho, by omega⟩] at h
        refine lay c N f1 f2 f3 (by omega) (Or.inr ⟨t0, ?_⟩) h
        rw [ho, show a = (t.length : Int) from by omega]
      · rw [zU_eq] at q2
        omega
      · rw [zU_eq, h36, zwi (x := -1 - a) (by omega) (by omega)]
        rw [if_neg (fun hh => by omega)] at h
        exact h _ (fun j hj => by rw [zU_off j (by omega)]; exact f1 j (by omega)) (clear _ (fun j hj => by rw [zU_off j hj]; exact f1 j hj) (fun i hi => by rw [zU_ne (by omega)]; exact f2 i hi) (by rw [zU_ne (by omega)]; exact f3))
    · have ho : ok = false := ho
      have h37 : N 119 37 = a := h37
      obtain ⟨f1, f2, f3⟩ := fr N hN
      refine m_fine (fun q2 => by omega) (fun _ => zb0 (m_fine (fun q2 => by omega) (fun _ => zb0 ?_)))
      rw [h37, zwi (x := -1 - a) (by omega) (by omega)]
      rw [if_neg (fun hh => by rw [ho] at hh; cases hh.1)] at h
      exact h N (fun j hj => f1 j (by omega)) (clear N f1 f2 f3)
end
