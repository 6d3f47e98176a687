-- needs 30 31 32
/-! rows that are told; standings that change -/
theorem k_mem {K : Option zV → zM → Prop} {v : Option zV} {μ μ' : zM} (h : K v μ) (e : μ' = μ) : K v μ' := e ▸ h
theorem zU_ne {μ : zM} {j a : Nat} {i v b : Int} (h : ¬ (a = j ∧ b = i)) : zU μ j i v a b = μ a b := if_neg h
theorem zU_eq {μ : zM} {j : Nat} {i v : Int} : zU μ j i v j i = v := if_pos ⟨rfl, rfl⟩
section CS
variable {g : zG} {d : Nat} {K : Option zV → zM → Prop} {μ : zM} {s o : Nat} {e a b x y : Int}
theorem c_empty (h : K none (zU μ 18 1 0)) : zCall g d 42 [.inr (.inr ((0, 5), 18))] μ K := by
  refine zcX5_empty [] 60 rfl (fun _ _ => ?_)
  exact h
theorem c_tell (hs : 0 ≤ μ 18 1 ∧ μ 18 1 < 12) (h : K none (zU (zU μ 19 (μ 18 1) x) 18 1 (μ 18 1 + 1))) : zCall g d 43 [.inr (.inr ((0, 5), 18)), .inl x] μ K := by
  refine zcX5_tell [] 60 rfl (fun _ _ => ?_)
  have e1 : zU μ 19 (μ 18 1) x 18 1 = μ 18 1 := zU_ne (by omega)
  repeat' first
    | refine And.intro ?_ ?_
    | intro _
  all_goals first
    | omega
    | (refine k_mem h ?_
       show zU (zU μ 19 (μ 18 1) x) 18 1 (zw (zU μ 19 (μ 18 1) x 18 1 + 1)) = _
       rw [e1, zw_id (by unfold zI32; omega)])
theorem c_tellOne (hd : 1 ≤ d) (h : K none (zU (zU (zU μ 18 1 0) 19 0 x) 18 1 1)) : zCall g d 44 [.inr (.inr ((0, 5), 18)), .inl x] μ K := by
  refine zcX5_tellOne [] 60 rfl (fun _ _ => ?_)
  refine And.intro (by omega) (c_empty ?_)
  have e1 : zU μ 18 1 0 18 1 = 0 := zU_eq
  refine And.intro (by omega) (c_tell (by rw [e1]; omega) ?_)
  rw [e1]
  exact h
theorem c_tellTwo (hd : 1 ≤ d) (h : K none (zU (zU (zU (zU (zU μ 18 1 0) 19 0 x) 18 1 1) 19 1 y) 18 1 2)) : zCall g d 45 [.inr (.inr ((0, 5), 18)), .inl x, .inl y] μ K := by
  refine zcX5_tellTwo [] 60 rfl (fun _ _ => ?_)
  refine And.intro (by omega) (c_empty ?_)
  have e1 : zU μ 18 1 0 18 1 = 0 := zU_eq
  refine And.intro (by omega) (c_tell (by rw [e1]; omega) ?_)
  rw [e1]
  have e2 : zU (zU (zU μ 18 1 0) 19 0 x) 18 1 (0 + 1) 18 1 = 1 := zU_eq
  refine And.intro (by omega) (c_tell (by rw [e2]; omega) ?_)
  rw [e2]
  exact h
/-- one Standing becomes as another -/
theorem c_takeFrom (hd : 1 ≤ d) (hs : 20 ≤ s) (ho : 20 ≤ o) (hso : s + 5 ≤ o ∨ o + 5 ≤ s) (hr : μ 12 2 = 14 ∨ μ 12 2 = 15) (h : ∀ μ', (∀ j, ¬ (s ≤ j ∧ j ≤ s + 4) → μ' j = μ j) → vC μ' s = vC μ o → K none μ') : zCall g d 57 [.inr (.inr ((0, 7), s)), .inr (.inr ((0, 7), o))] μ K := by
  refine zcX7_takeFrom [] 80 rfl (fun _ _ => ?_)
  have fin : ∀ m, (m = zcp (zcp (zcp (zcp (zU (zU (zU μ s 0 (μ o 0)) s 1 (μ o 1)) s 2 (μ o 2)) (o + 1) 0 (s + 1) 0 23) (o + 2) 0 (s + 2) 0 23) (o + 3) 0 (s + 3) 0 12) (o + 4) 0 (s + 4) 0 12) → K none m := by
    rintro m rfl
    sorry
  have n1 : ∀ (m : zM) (k v : Int) (w : Int), zU m s k v o w = m o w := fun m k v w => zU_ne (by omega)
  repeat' first
    | refine And.intro ?_ ?_
    | intro _
  all_goals first
    | omega
    | (refine fin _ ?_; simp only [n1])
theorem c_bring_test : True := trivial
end CS
