-- needs 20.walks 30 31 32 34 21.s01 21.s02 21.s03 21.s04
/-! rows that are told; standings that change -/
theorem k_mem {K : Option zV → zM → Prop} {v : Option zV} {μ μ' : zM} (h : K v μ) (e : μ' = μ) : K v μ' := e ▸ h
theorem zU_ne {μ : zM} {j a : Nat} {i v b : Int} (h : ¬ (a = j ∧ b = i)) : zU μ j i v a b = μ a b := if_neg h
theorem zU_eq {μ : zM} {j : Nat} {i v : Int} : zU μ j i v j i = v := if_pos ⟨rfl, rfl⟩
/-- the cells of a Standing -/
def zs (s : Nat) : Prop := s = 20 ∨ (32 ≤ s ∧ s ≤ 57) ∨ s = 93 ∨ (104 ≤ s ∧ s ≤ 114)
def zrl (μ : zM) : Prop := μ 12 2 = 14 ∨ μ 12 2 = 15
theorem vC_k {μ μ' : zM} {s k : Nat} (hr : zrl μ) (h1 : ∀ j, 1 ≤ j → j ≤ 15 → μ' j = μ j) (h : (k = 0 → μ' (s + 1) = μ (s + 1)) ∧ (k = 1 → μ' (s + 2) = μ (s + 2)) ∧ (k = 2 → μ' (s + 3) = μ (s + 3)) ∧ (k = 3 → μ' (s + 4) = μ (s + 4)) ∧ (k = 4 → μ' s 2 = μ s 2) ∧ (k = 5 → μ' s 0 = μ s 0 ∧ μ' s 1 = μ s 1)) : vC μ' s k = vC μ s k := by
  obtain ⟨a0, a1, a2, a3, a4, a5⟩ := h
  funext i
  match k with
  | 0 => simp only [vC]; rw [a0 rfl]
  | 1 => simp only [vC]; rw [a1 rfl]
  | 2 => simp only [vC]; rw [a2 rfl]
  | 3 => simp only [vC]; rw [a3 rfl]
  | 4 => simp only [vC]; rw [a4 rfl]
  | 5 =>
    simp only [vC, y_cl]
    split
    · have : i = 0 ∨ i = 1 := by omega
      rcases this with rfl | rfl
      · exact (a5 rfl).1
      · exact (a5 rfl).2
    · rfl
  | 6 => simp only [vC]; rw [h1 2 (by omega) (by omega)]
  | 7 => simp only [vC]; rw [h1 3 (by omega) (by omega)]
  | 8 => simp only [vC]; rw [h1 4 (by omega) (by omega)]
  | 9 => simp only [vC]; rw [h1 6 (by omega) (by omega)]
  | 10 => simp only [vC]; rw [h1 7 (by omega) (by omega)]
  | 11 => simp only [vC]; rw [h1 8 (by omega) (by omega)]
  | 12 => simp only [vC]; rw [h1 9 (by omega) (by omega)]
  | 13 => simp only [vC]; rw [h1 5 (by omega) (by omega), h1 1 (by omega) (by omega)]
  | 14 =>
    simp only [vC]
    rw [h1 12 (by omega) (by omega)]
    rcases hr with hr | hr <;> rw [hr]
    · rw [show ((14 : Int)).toNat = 14 from rfl, h1 14 (by omega) (by omega)]
    · rw [show ((15 : Int)).toNat = 15 from rfl, h1 15 (by omega) (by omega)]
  | 15 => simp only [vC]; rw [h1 12 (by omega) (by omega)]
  | n + 16 => simp only [vC]
theorem vC_same {μ μ' : zM} {s : Nat} (hr : zrl μ) (h1 : ∀ j, 1 ≤ j → j ≤ 15 → μ' j = μ j) (h2 : ∀ j, s ≤ j → j ≤ s + 4 → μ' j = μ j) : vC μ' s = vC μ s := by
  funext k
  exact vC_k hr h1 ⟨fun _ => h2 _ (by omega) (by omega), fun _ => h2 _ (by omega) (by omega), fun _ => h2 _ (by omega) (by omega), fun _ => h2 _ (by omega) (by omega), fun _ => by rw [h2 _ (by omega) (by omega)], fun _ => by rw [h2 _ (by omega) (by omega)]; exact ⟨rfl, rfl⟩⟩
theorem y_cl_U {n : Int} {μ : zM} {j : Nat} {i v : Int} (h : 0 ≤ i ∧ i < n) (x : Int) : y_cl n (zU μ j i v j) x = if x = i then v else y_cl n (μ j) x := by
  by_cases hx : x = i
  · subst hx
    rw [if_pos rfl, y_in h, zU_eq]
  · rw [if_neg hx]
    simp only [y_cl]
    rw [zU_ne (by omega)]
section CS0
variable {μ : zM} {s : Nat} {i v : Int}
theorem vU1 (hr : zrl μ) (hs : 20 ≤ s) (h : 0 ≤ i ∧ i < 23) : vC (zU μ (s + 1) i v) s = zU (vC μ s) 0 i v := by
  funext k x
  by_cases hk : k = 0
  · subst hk
    show y_cl 23 (zU μ (s + 1) i v (s + 1)) x = _
    rw [y_cl_U h]
    simp only [zU, true_and]
    rfl
  · rw [zU_ne (by omega), vC_k hr (fun j _ _ => by rw [zU_off j (by omega)]) ⟨fun q => absurd q hk, fun _ => by rw [zU_off _ (by omega)], fun _ => by rw [zU_off _ (by omega)], fun _ => by rw [zU_off _ (by omega)], fun _ => by rw [zU_off _ (by omega)], fun _ => by rw [zU_off _ (by omega)]; exact ⟨rfl, rfl⟩⟩]
theorem vU2 (hr : zrl μ) (hs : 20 ≤ s) (h : 0 ≤ i ∧ i < 23) : vC (zU μ (s + 2) i v) s = zU (vC μ s) 1 i v := by
  funext k x
  by_cases hk : k = 1
  · subst hk
    show y_cl 23 (zU μ (s + 2) i v (s + 2)) x = _
    rw [y_cl_U h]
    simp only [zU, true_and]
    rfl
  · rw [zU_ne (by omega), vC_k hr (fun j _ _ => by rw [zU_off j (by omega)]) ⟨fun _ => by rw [zU_off _ (by omega)], fun q => absurd q hk, fun _ => by rw [zU_off _ (by omega)], fun _ => by rw [zU_off _ (by omega)], fun _ => by rw [zU_off _ (by omega)], fun _ => by rw [zU_off _ (by omega)]; exact ⟨rfl, rfl⟩⟩]
theorem vU3 (hr : zrl μ) (hs : 20 ≤ s) (h : 0 ≤ i ∧ i < 12) : vC (zU μ (s + 3) i v) s = zU (vC μ s) 2 i v := by
  funext k x
  by_cases hk : k = 2
  · subst hk
    show y_cl 12 (zU μ (s + 3) i v (s + 3)) x = _
    rw [y_cl_U h]
    simp only [zU, true_and]
    rfl
  · rw [zU_ne (by omega), vC_k hr (fun j _ _ => by rw [zU_off j (by omega)]) ⟨fun _ => by rw [zU_off _ (by omega)], fun _ => by rw [zU_off _ (by omega)], fun q => absurd q hk, fun _ => by rw [zU_off _ (by omega)], fun _ => by rw [zU_off _ (by omega)], fun _ => by rw [zU_off _ (by omega)]; exact ⟨rfl, rfl⟩⟩]
theorem vU4 (hr : zrl μ) (hs : 20 ≤ s) (h : 0 ≤ i ∧ i < 12) : vC (zU μ (s + 4) i v) s = zU (vC μ s) 3 i v := by
  funext k x
  by_cases hk : k = 3
  · subst hk
    show y_cl 12 (zU μ (s + 4) i v (s + 4)) x = _
    rw [y_cl_U h]
    simp only [zU, true_and]
    rfl
  · rw [zU_ne (by omega), vC_k hr (fun j _ _ => by rw [zU_off j (by omega)]) ⟨fun _ => by rw [zU_off _ (by omega)], fun _ => by rw [zU_off _ (by omega)], fun _ => by rw [zU_off _ (by omega)], fun q => absurd q hk, fun _ => by rw [zU_off _ (by omega)], fun _ => by rw [zU_off _ (by omega)]; exact ⟨rfl, rfl⟩⟩]
theorem vU5 (hr : zrl μ) (hs : 20 ≤ s) (h : i = 0 ∨ i = 1) : vC (zU μ s i v) s = zU (vC μ s) 5 i v := by
  funext k x
  by_cases hk : k = 5
  · subst hk
    show y_cl 2 (zU μ s i v s) x = _
    rw [y_cl_U (by omega)]
    simp only [zU, true_and]
    rfl
  · rw [zU_ne (by omega), vC_k hr (fun j _ _ => by rw [zU_off j (by omega)]) ⟨fun _ => by rw [zU_off _ (by omega)], fun _ => by rw [zU_off _ (by omega)], fun _ => by rw [zU_off _ (by omega)], fun _ => by rw [zU_off _ (by omega)], fun _ => by rw [zU_ne (by omega)], fun q => absurd q hk⟩]
end CS0
section CS
variable {g : zG} {d : Nat} {K : Option zV → zM → Prop} {μ : zM} {s o : Nat} {e a b x y : Int}
theorem c_empty (h : K none (zU μ 18 1 0)) : zCall g d 42 [.inr (.inr ((0, 5), 18))] μ K := sX5_empty h
theorem c_tell (hs : 0 ≤ μ 18 1 ∧ μ 18 1 < 12) (h : K none (zU (zU μ 19 (μ 18 1) x) 18 1 (μ 18 1 + 1))) : zCall g d 43 [.inr (.inr ((0, 5), 18)), .inl x] μ K := by
  refine sX5_tell ?_
  rw [zwi (x := μ 18 1 + 1) (by omega) (by omega)]
  exact ⟨fun q => absurd q (by omega), fun _ => ⟨hs, h⟩⟩
theorem c_tellOne (hd : 1 ≤ d) (h : K none (zU (zU (zU μ 18 1 0) 19 0 x) 18 1 1)) : zCall g d 44 [.inr (.inr ((0, 5), 18)), .inl x] μ K := by
  refine sX5_tellOne ⟨hd, c_empty (zn ?_)⟩
  have e1 : zU μ 18 1 0 18 1 = 0 := zU_eq
  refine c_tell (by rw [e1]; omega) (zn ?_)
  rw [e1]
  exact h
theorem c_tellTwo (hd : 1 ≤ d) (h : K none (zU (zU (zU (zU (zU μ 18 1 0) 19 0 x) 18 1 1) 19 1 y) 18 1 2)) : zCall g d 45 [.inr (.inr ((0, 5), 18)), .inl x, .inl y] μ K := by
  refine sX5_tellTwo ⟨hd, c_empty (zn ?_)⟩
  have e1 : zU μ 18 1 0 18 1 = 0 := zU_eq
  refine c_tell (by rw [e1]; omega) (zn ?_)
  rw [e1]
  have e2 : zU (zU (zU μ 18 1 0) 19 0 x) 18 1 (0 + 1) 18 1 = 1 := zU_eq
  refine c_tell (by rw [e2]; omega) (zn ?_)
  rw [e2]
  exact h
theorem zcp_ne {μ : zM} {j' j a : Nat} {sp dp n b : Int} (h : ¬ (a = j ∧ dp ≤ b ∧ b < dp + n)) : zcp μ j' sp j dp n a b = μ a b := if_neg h
theorem zcp_in {μ : zM} {j' j : Nat} {sp dp n b : Int} (h : dp ≤ b ∧ b < dp + n) : zcp μ j' sp j dp n j b = μ j' (b - dp + sp) := if_pos ⟨rfl, h⟩
/-- one Standing becomes as another -/
theorem c_takeFrom (hd : 1 ≤ d) (hs : 20 ≤ s) (ho : 20 ≤ o) (hso : s + 5 ≤ o ∨ o + 5 ≤ s) (hr : zrl μ) (h : ∀ μ', (∀ j, ¬ (s ≤ j ∧ j ≤ s + 4) → μ' j = μ j) → vC μ' s = vC μ o → K none μ') : zCall g d 57 [.inr (.inr ((0, 7), s)), .inr (.inr ((0, 7), o))] μ K := by
  refine sX7_takeFrom ⟨hd, by omega, by omega, by omega, by omega, ?_⟩
  have n1 : ∀ (m : zM) (k v : Int) (w : Int), zU m s k v o w = m o w := fun m k v w => zU_ne (by omega)
  simp only [n1]
  refine h _ ?_ ?_
  · intro j hj
    rw [zcp_off _ (by omega), zcp_off _ (by omega), zcp_off _ (by omega), zcp_off _ (by omega), zU_off _ (by omega), zU_off _ (by omega), zU_off _ (by omega)]
  · funext k i
    have c1 : ∀ i, 0 ≤ i ∧ i < 23 → zcp (zcp (zcp (zcp (zU (zU (zU μ s 0 (μ o 0)) s 1 (μ o 1)) s 2 (μ o 2)) (o + 1) 0 (s + 1) 0 23) (o + 2) 0 (s + 2) 0 23) (o + 3) 0 (s + 3) 0 12) (o + 4) 0 (s + 4) 0 12 (s + 1) i = μ (o + 1) i := by
      intro i hi
      rw [zcp_ne (by omega), zcp_ne (by omega), zcp_ne (by omega), zcp_in (by omega), zU_off _ (by omega), zU_off _ (by omega), zU_off _ (by omega), show i - 0 + 0 = i from by omega]
    have c2 : ∀ i, 0 ≤ i ∧ i < 23 → zcp (zcp (zcp (zcp (zU (zU (zU μ s 0 (μ o 0)) s 1 (μ o 1)) s 2 (μ o 2)) (o + 1) 0 (s + 1) 0 23) (o + 2) 0 (s + 2) 0 23) (o + 3) 0 (s + 3) 0 12) (o + 4) 0 (s + 4) 0 12 (s + 2) i = μ (o + 2) i := by
      intro i hi
      rw [zcp_ne (by omega), zcp_ne (by omega), zcp_in (by omega), zcp_ne (by omega), zU_off _ (by omega), zU_off _ (by omega), zU_off _ (by omega), show i - 0 + 0 = i from by omega]
    have c3 : ∀ i, 0 ≤ i ∧ i < 12 → zcp (zcp (zcp (zcp (zU (zU (zU μ s 0 (μ o 0)) s 1 (μ o 1)) s 2 (μ o 2)) (o + 1) 0 (s + 1) 0 23) (o + 2) 0 (s + 2) 0 23) (o + 3) 0 (s + 3) 0 12) (o + 4) 0 (s + 4) 0 12 (s + 3) i = μ (o + 3) i := by
      intro i hi
      rw [zcp_ne (by omega), zcp_in (by omega), zcp_ne (by omega), zcp_ne (by omega), zU_off _ (by omega), zU_off _ (by omega), zU_off _ (by omega), show i - 0 + 0 = i from by omega]
    have c4 : ∀ i, 0 ≤ i ∧ i < 12 → zcp (zcp (zcp (zcp (zU (zU (zU μ s 0 (μ o 0)) s 1 (μ o 1)) s 2 (μ o 2)) (o + 1) 0 (s + 1) 0 23) (o + 2) 0 (s + 2) 0 23) (o + 3) 0 (s + 3) 0 12) (o + 4) 0 (s + 4) 0 12 (s + 4) i = μ (o + 4) i := by
      intro i hi
      rw [zcp_in (by omega), zcp_ne (by omega), zcp_ne (by omega), zcp_ne (by omega), zU_off _ (by omega), zU_off _ (by omega), zU_off _ (by omega), show i - 0 + 0 = i from by omega]
    have c5 : ∀ i, i = 0 ∨ i = 1 ∨ i = 2 → zcp (zcp (zcp (zcp (zU (zU (zU μ s 0 (μ o 0)) s 1 (μ o 1)) s 2 (μ o 2)) (o + 1) 0 (s + 1) 0 23) (o + 2) 0 (s + 2) 0 23) (o + 3) 0 (s + 3) 0 12) (o + 4) 0 (s + 4) 0 12 s i = μ o i := by
      rintro i (rfl | rfl | rfl)
      · rw [zcp_ne (by omega), zcp_ne (by omega), zcp_ne (by omega), zcp_ne (by omega), zU_ne (by omega), zU_ne (by omega), zU_eq]
      · rw [zcp_ne (by omega), zcp_ne (by omega), zcp_ne (by omega), zcp_ne (by omega), zU_ne (by omega), zU_eq]
      · rw [zcp_ne (by omega), zcp_ne (by omega), zcp_ne (by omega), zcp_ne (by omega), zU_eq]
    have c6 : ∀ j, 1 ≤ j → j ≤ 15 → zcp (zcp (zcp (zcp (zU (zU (zU μ s 0 (μ o 0)) s 1 (μ o 1)) s 2 (μ o 2)) (o + 1) 0 (s + 1) 0 23) (o + 2) 0 (s + 2) 0 23) (o + 3) 0 (s + 3) 0 12) (o + 4) 0 (s + 4) 0 12 j = μ j := by
      intro j _ _
      rw [zcp_off _ (by omega), zcp_off _ (by omega), zcp_off _ (by omega), zcp_off _ (by omega), zU_off _ (by omega), zU_off _ (by omega), zU_off _ (by omega)]
    generalize zcp (zcp (zcp (zcp (zU (zU (zU μ s 0 (μ o 0)) s 1 (μ o 1)) s 2 (μ o 2)) (o + 1) 0 (s + 1) 0 23) (o + 2) 0 (s + 2) 0 23) (o + 3) 0 (s + 3) 0 12) (o + 4) 0 (s + 4) 0 12 = m at *
    by_cases hk : k ≤ 5
    · have : k = 0 ∨ k = 1 ∨ k = 2 ∨ k = 3 ∨ k = 4 ∨ k = 5 := by omega
      rcases this with rfl | rfl | rfl | rfl | rfl | rfl
      · simp only [vC, y_cl]; split
        · rename_i q; exact c1 i q
        · rfl
      · simp only [vC, y_cl]; split
        · rename_i q; exact c2 i q
        · rfl
      · simp only [vC, y_cl]; split
        · rename_i q; exact c3 i q
        · rfl
      · simp only [vC, y_cl]; split
        · rename_i q; exact c4 i q
        · rfl
      · simp only [vC, c5 2 (Or.inr (Or.inr rfl))]
      · simp only [vC, y_cl]; split
        · rename_i q; exact c5 i (by omega)
        · rfl
    · have e1 : vC m s k = vC μ s k := vC_k hr c6 ⟨by omega, by omega, by omega, by omega, by omega, by omega⟩
      have e2 : vC μ s k = vC μ o k := by
        match k, hk with
        | 0, hk => omega
        | 1, hk => omega
        | 2, hk => omega
        | 3, hk => omega
        | 4, hk => omega
        | 5, hk => omega
        | 6, _ => funext i; simp only [vC]
        | 7, _ => funext i; simp only [vC]
        | 8, _ => funext i; simp only [vC]
        | 9, _ => funext i; simp only [vC]
        | 10, _ => funext i; simp only [vC]
        | 11, _ => funext i; simp only [vC]
        | 12, _ => funext i; simp only [vC]
        | 13, _ => funext i; simp only [vC]
        | 14, _ => funext i; simp only [vC]
        | 15, _ => funext i; simp only [vC]
        | n + 16, _ => funext i; simp only [vC]
      rw [e1, e2]
end CS
