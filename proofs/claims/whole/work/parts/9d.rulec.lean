-- needs 102
/-! rule: the class's call -/
section
variable {g : zG} {d : Nat} {K : Option zV → zM → Prop} {μ μ' : zM} {nn : Int} {S : zS}
theorem vC_but {k : Nat} (h : ∀ j, (1 ≤ j ∧ j ≤ 9) ∨ (20 ≤ j ∧ j ≤ 24) → μ' j = μ j) (hk : ¬ k = 14 ∧ ¬ k = 15) : vC μ' 20 k = vC μ 20 k := by
  funext x
  match k with
  | 0 => simp only [vC]; rw [h 21 (by omega)]
  | 1 => simp only [vC]; rw [h 22 (by omega)]
  | 2 => simp only [vC]; rw [h 23 (by omega)]
  | 3 => simp only [vC]; rw [h 24 (by omega)]
  | 4 => simp only [vC]; rw [h 20 (by omega)]
  | 5 => simp only [vC]; rw [h 20 (by omega)]
  | 6 => simp only [vC]; rw [h 2 (by omega)]
  | 7 => simp only [vC]; rw [h 3 (by omega)]
  | 8 => simp only [vC]; rw [h 4 (by omega)]
  | 9 => simp only [vC]; rw [h 6 (by omega)]
  | 10 => simp only [vC]; rw [h 7 (by omega)]
  | 11 => simp only [vC]; rw [h 8 (by omega)]
  | 12 => simp only [vC]; rw [h 9 (by omega)]
  | 13 => simp only [vC]; rw [h 5 (by omega), h 1 (by omega)]
  | 14 => exact absurd rfl hk.1
  | 15 => exact absurd rfl hk.2
  | k + 16 => simp only [vC]
theorem cY_ru {Y : zM} {c : List Int} (h : cY μ Y) (e : ∀ j, (1 ≤ j ∧ j ≤ 9) ∨ (20 ≤ j ∧ j ≤ 24) → μ' j = μ j) (h3 : μ' 12 3 = (c.length : Int)) (h2 : μ' 12 2 = 14 ∨ μ' 12 2 = 15) (h4 : μ' 12 4 = 29 - μ' 12 2) (hc : ∀ k : Nat, k < c.length → μ' (μ' 12 2).toNat (k : Int) = c.getD k 0) : cY μ' (ru_Y Y c) := by
  obtain ⟨a1, a2, a3, a4⟩ := h
  refine ⟨?_, h2, h4, by rw [e 20 (by omega), a4]; rfl⟩
  funext k i
  unfold ru_Y
  by_cases q14 : k = 14
  · subst q14
    rw [if_pos rfl]
    simp only [vC]
    unfold y_cl
    rw [h3]
    by_cases q : 0 ≤ i ∧ i < (c.length : Int)
    · rw [if_pos q, if_pos q]
      have := hc i.toNat (by omega)
      rw [show ((i.toNat : Nat) : Int) = i from by omega] at this
      exact this
    · rw [if_neg q, if_neg q]
  · by_cases q15 : k = 15
    · subst q15
      rw [if_neg (by omega), if_pos rfl]
      simp only [vC]
      exact h3
    · rw [if_neg q14, if_neg q15, vC_but e ⟨q14, q15⟩, a1]
theorem cY_no {Y : zM} (h : cY μ Y) (e : ∀ j, (1 ≤ j ∧ j ≤ 9) ∨ (20 ≤ j ∧ j ≤ 24) → μ' j = μ j) (h2 : μ' 12 2 = μ 12 2) (h3 : μ' 12 3 = μ 12 3) (h4 : μ' 12 4 = μ 12 4) (hc : μ' (μ 12 2).toNat = μ (μ 12 2).toNat) : cY μ' Y := by
  obtain ⟨a1, a2, a3, a4⟩ := h
  refine ⟨?_, by unfold zrl; rw [h2]; exact a2, by rw [h4, h2]; exact a3, by rw [e 20 (by omega), a4]⟩
  rw [← a1]
  funext k i
  by_cases q14 : k = 14
  · subst q14
    simp only [vC]
    rw [h2, h3, hc]
  · by_cases q15 : k = 15
    · subst q15
      simp only [vC]
      exact h3
    · rw [vC_but e ⟨q14, q15⟩]
/-- the class's cells with another rule and no text -/
theorem cS_text {S : zS} {Y : zM} (h : cS μ S) (hY : cY μ' Y) (e : ∀ j, ¬ (j = 12 ∨ j = 14 ∨ j = 15) → μ' j = μ j) (h1 : μ' 12 1 = 0) : cS μ' (sT (sY S Y) []) := by
  obtain ⟨a1, a2, a3, a4, a5, a6, a7⟩ := h
  exact ⟨hY, ⟨h1, zli_nil _⟩, a3.same (by rw [e 18 (by omega)]) (e 19 (by omega)), a4.same (by rw [e 62 (by omega)]) (by rw [e 62 (by omega)]) (e 63 (by omega)) (e 64 (by omega)), a5.same (e 71 (by omega)) (e 72 (by omega)) (e 10 (by omega)) (e 11 (by omega)), a6.same (by rw [e 78 (by omega)]) (fun j _ _ => e j (by omega)), a7.same (by rw [e 0 (by omega)]) (fun j _ _ => e j (by omega))⟩
theorem C_rule (hd : 80 ≤ d) (hC : cS μ S) (hI : iS nn S) (h : ∀ μ', zEc μ' μ → cS μ' (o_rule S).2 → K (some (.inl (o_rule S).1)) μ') : zCall g d 116 [.inr (.inr ((0, 11), 0))] μ K := by
  have hT := hC.2.1
  have iT' := hI.2.2.1
  unfold o_rule at h
  obtain ⟨t, ht⟩ : ∃ t, S.2.1 = t := ⟨_, rfl⟩
  rw [ht] at h hT iT'
  have tl : μ 12 1 = (t.length : Int) := hT.1
  have tl60 := iT'.1
  have hY := hC.1
  have r2 : μ 12 2 = 14 ∨ μ 12 2 = 15 := hY.2.1
  have r4 : μ 12 4 = 29 - μ 12 2 := hY.2.2.1
  refine sX11_rule ⟨by omega, sX6_adopt ⟨by omega, fun q => ?_, fun q => ?_⟩⟩
  · have t0 : t = [] := List.eq_nil_of_length_eq_zero (by omega)
    rw [if_pos t0] at h
    have fin : ∀ a b : Int, (a = 14 ∨ a = 15) → b = 29 - a → cS (zU (zU (zU (zU (zU (zU (zU μ 12 1 0) 12 5 0) 12 6 0) 12 7 (min (μ 12 1) 40)) 12 2 a) 12 3 0) 12 4 b) (sT (sY S (ru_Y S.1 [])) []) := by
      intro a b ha hb
      refine cS_text hC (cY_ru (c := []) hY (fun j hj => by rw [zU_off j (by omega), zU_off j (by omega), zU_off j (by omega), zU_off j (by omega), zU_off j (by omega), zU_off j (by omega), zU_off j (by omega)]) (by simp [zU]) (by simp [zU]; exact ha) (by simp [zU]; exact hb) (fun k hk => by simp at hk)) (fun j hj => by rw [zU_off j (by omega), zU_off j (by omega), zU_off j (by omega), zU_off j (by omega), zU_off j (by omega), zU_off j (by omega), zU_off j (by omega)]) (by simp [zU])
    have ec : ∀ a b : Int, zEc (zU (zU (zU (zU (zU (zU (zU μ 12 1 0) 12 5 0) 12 6 0) 12 7 (min (μ 12 1) 40)) 12 2 a) 12 3 0) 12 4 b) μ := fun a b j hj => by rw [zU_off j (by omega), zU_off j (by omega), zU_off j (by omega), zU_off j (by omega), zU_off j (by omega), zU_off j (by omega), zU_off j (by omega)]
    rcases r2 with r2 | r2
    · exact Or.inl ⟨r2, Or.inr ⟨by omega, zi (h _ (ec _ _) (fin 15 14 (by omega) (by omega)))⟩⟩
    · exact Or.inr ⟨r2, Or.inl ⟨by omega, zi (h _ (ec _ _) (fin 14 15 (by omega) (by omega)))⟩⟩
  · have t0 : ¬ t = [] := fun q2 => by rw [q2] at tl; simp at tl; omega
    rw [if_neg t0] at h
    generalize hM0 : zU (zU (zU (zU μ 12 1 0) 12 5 0) 12 6 0) 12 7 (min (μ 12 1) 40) = M0
    have m1 : M0 12 1 = 0 := by rw [← hM0]; simp [zU]
    have m5 : M0 12 5 = 0 := by rw [← hM0]; simp [zU]
    have m6 : M0 12 6 = 0 := by rw [← hM0]; simp [zU]
    have m7 : M0 12 7 = min (t.length : Int) 40 := by rw [← hM0, ← tl]; simp [zU]
    have m2 : M0 12 2 = μ 12 2 := by rw [← hM0]; simp [zU]
    have m3 : M0 12 3 = μ 12 3 := by rw [← hM0]; simp [zU]
    have m4 : M0 12 4 = μ 12 4 := by rw [← hM0]; simp [zU]
    have mj : ∀ j, ¬ j = 12 → M0 j = μ j := fun j hj => by rw [← hM0, zU_off j hj, zU_off j hj, zU_off j hj, zU_off j hj]
    obtain ⟨jd, hjd, ejd⟩ : ∃ jd : Nat, (jd = 14 ∨ jd = 15) ∧ μ 12 4 = (jd : Int) := ⟨(μ 12 4).toNat, by omega, by omega⟩
    have hp : q_pre (ru_H t) (min (t.length : Int) 40) jd M0 := by
      refine ⟨⟨m7, by omega, by omega⟩, hjd, by rw [m4]; exact ejd, fun i hi => ?_, ru_H_end t, by rw [m5, m6]; omega⟩
      have lt : i.toNat < t.length := by omega
      have e := hT.2 i.toNat (t.getD i.toNat 0) (by rw [List.getD_eq_getElem?_getD, List.getElem?_eq_getElem lt]; rfl)
      have b := iT'.2 (t.getD i.toNat 0) (by rw [List.getD_eq_getElem?_getD, List.getElem?_eq_getElem lt]; exact List.getElem_mem lt)
      rw [show ((i.toNat : Nat) : Int) = i from by omega] at e
      rw [mj 13 (by omega), e]
      refine ⟨by omega, ?_⟩
      unfold ru_H p_H
      rw [if_pos (by omega)]
      rfl
    have fit := p_r_fit (H := ru_H t) (m := min (t.length : Int) 40) (ru_H_end t) 29 0 (by omega)
    have call := c_read (g := g) (H := ru_H t) (m := min (t.length : Int) 40) (jd := jd) (ru_H_end t) (by omega) 29 (by omega) (d - 1 - 1) (by omega)
    refine call M0 _ hp (fun N hN => ?_)
    rw [m6] at hN ⊢
    rw [tl]
    generalize hq : p_r (ru_H t) 29 0 = res at *
    obtain ⟨a, c, ok⟩ := res
    simp only [] at fit h hN ⊢
    obtain ⟨n1, n2, n3, n4, n5, n6⟩ := hN
    rw [m5] at n4 n6
    have nj : ∀ j, ¬ (j = 12 ∨ j = 14 ∨ j = 15) → N j = μ j := fun j hj => by rw [n1 j (by omega) (by omega), mj j (by omega)]
    have nc : ∀ k : Nat, k < c.length → N jd (k : Int) = c.getD k 0 := fun k hk => by have := n6 k hk; rw [show (0 : Int) + (k : Int) = (k : Int) from by omega] at this; exact this
    have wrong : ∀ M : zM, M = N → ¬ (ok = true ∧ (t.length : Int) ≤ a) → (zIi fun r2 μ1 => K (some (.inl r2)) μ1) (some (.inl (zw (-1 - N 12 6)))) M := by
      intro M hM hno
      rw [hM, n3, zwi (x := -1 - a) (by omega) (by omega)]
      rw [if_neg hno] at h
      refine zi (h N (fun j hj => nj j (by omega)) ?_)
      have hYn : cY N S.1 := cY_no hY (fun j hj => nj j (by omega)) (by rw [n2 2 (by omega) (by omega)]; exact m2) (by rw [n2 3 (by omega) (by omega)]; exact m3) (by rw [n2 4 (by omega) (by omega)]; exact m4) (by
        rw [n1 _ (by omega) (by omega)]
        exact mj _ (by omega))
      exact cS_text hC hYn nj (by rw [n2 1 (by omega) (by omega)]; exact m1)
    cases ok
    · exact zb0 (wrong N rfl (fun hh => by cases hh.1))
    · refine zb1 ⟨fun q2 => ?_, fun q2 => wrong N rfl (fun hh => by omega)⟩
      rw [if_pos ⟨rfl, by omega⟩] at h
      have fin : ∀ b : Int, b = 29 - (jd : Int) → zEc (zU (zU (zU N 12 2 (jd : Int)) 12 3 (N 12 5)) 12 4 b) μ ∧ cS (zU (zU (zU N 12 2 (jd : Int)) 12 3 (N 12 5)) 12 4 b) (sT (sY S (ru_Y S.1 c)) []) := by
        intro b hb
        refine ⟨fun j hj => by rw [zU_off j (by omega), zU_off j (by omega), zU_off j (by omega)]; exact nj j (by omega), ?_⟩
        refine cS_text hC (cY_ru (c := c) hY (fun j hj => by rw [zU_off j (by omega), zU_off j (by omega), zU_off j (by omega)]; exact nj j (by omega)) ?_ ?_ ?_ (fun k hk => ?_)) (fun j hj => by rw [zU_off j (by omega), zU_off j (by omega), zU_off j (by omega)]; exact nj j hj) ?_
        · rw [zU_ne (by omega), zU_eq, n4]; omega
        · rw [zU_ne (by omega), zU_ne (by omega), zU_eq]; omega
        · rw [zU_eq, zU_ne (by omega), zU_ne (by omega), zU_eq]; omega
        · rw [zU_ne (a := 12) (b := 2) (by omega), zU_ne (a := 12) (b := 2) (by omega), zU_eq, show ((jd : Int)).toNat = jd from by omega, zU_off jd (by omega), zU_off jd (by omega), zU_off jd (by omega)]
          exact nc k hk
        · rw [zU_ne (by omega), zU_ne (by omega), zU_ne (by omega), n2 1 (by omega) (by omega)]; exact m1
      have e2 : N 12 2 = μ 12 2 := by rw [n2 2 (by omega) (by omega)]; exact m2
      have e4 : N 12 4 = μ 12 4 := by rw [n2 4 (by omega) (by omega)]; exact m4
      rcases r2 with r2 | r2
      · have j15 : jd = 15 := by omega
        subst j15
        exact Or.inl ⟨by omega, Or.inr ⟨by omega, zi (h _ (fin 14 (by omega)).1 (fin 14 (by omega)).2)⟩⟩
      · have j14 : jd = 14 := by omega
        subst j14
        exact Or.inr ⟨by omega, Or.inl ⟨by omega, zi (h _ (fin 15 (by omega)).1 (fin 15 (by omega)).2)⟩⟩
end
