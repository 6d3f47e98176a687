-- needs 30
/-! the class's small methods: ring, fleet, standings -/
section CL
variable {g : zG} {d : Nat} {K : Option zV → zM → Prop} {μ : zM} {s : Nat} {e a b x : Int}
theorem c_hasStall (h1 : 0 ≤ x ∧ x < μ 1 0 → K (some (.inl 1)) μ) (h0 : ¬ (0 ≤ x ∧ x < μ 1 0) → K (some (.inl 0)) μ) : zCall g d 35 [.inr (.inr ((0, 4), 1)), .inl x] μ K := by
  refine zcX4_hasStall [] 60 rfl (fun _ _ => ?_)
  repeat' first
    | refine And.intro (fun _ => ?_) (fun _ => ?_)
    | refine And.intro ?_ ?_
  all_goals first | omega | exact h1 (by omega) | exact h0 (by omega)
theorem c_hasPoint (h1 : 0 ≤ x ∧ x ≤ μ 1 0 → K (some (.inl 1)) μ) (h0 : ¬ (0 ≤ x ∧ x ≤ μ 1 0) → K (some (.inl 0)) μ) : zCall g d 36 [.inr (.inr ((0, 4), 1)), .inl x] μ K := by
  refine zcX4_hasPoint [] 60 rfl (fun _ _ => ?_)
  repeat' first
    | refine And.intro (fun _ => ?_) (fun _ => ?_)
    | refine And.intro ?_ ?_
  all_goals first | omega | exact h1 (by omega) | exact h0 (by omega)
theorem c_steps (hn : 0 ≤ μ 1 0 ∧ μ 1 0 ≤ 23) (ha : 0 ≤ a ∧ a ≤ 23) (hb : 0 ≤ b ∧ b ≤ 23) (h : K (some (.inl (f_steps (μ 1 0) a b))) μ) : zCall g d 37 [.inr (.inr ((0, 4), 1)), .inl a, .inl b] μ K := by
  refine zcX4_stepsBetween [] 60 rfl (fun _ _ => ?_)
  repeat' first
    | refine And.intro (fun _ => ?_) (fun _ => ?_)
    | refine And.intro ?_ ?_
  all_goals (refine k_int h ?_; unfold f_steps zw at *; omega)
theorem c_between (hd : 1 ≤ d) (hn : 0 ≤ μ 1 0 ∧ μ 1 0 ≤ 23) (ha : 0 ≤ a ∧ a ≤ 23) (hb : 0 ≤ b ∧ b ≤ 23) (h : K (some (.inl (min (max (a - b) (b - a)) (μ 1 0 - max (a - b) (b - a))))) μ) : zCall g d 38 [.inr (.inr ((0, 4), 1)), .inl a, .inl b] μ K := by
  refine zcX4_stallsBetween [] 60 rfl (fun _ _ => ?_)
  repeat' first
    | refine And.intro (fun _ => ?_) (fun _ => ?_)
    | refine And.intro ?_ ?_
  all_goals first | omega | (refine k_int h ?_; unfold zw at *; omega)
theorem z_and1 (x : Int) (h : 0 ≤ x ∧ x ≤ 3) : zand x 1 = x % 2 := by
  have : x = 0 ∨ x = 1 ∨ x = 2 ∨ x = 3 := by omega
  rcases this with rfl | rfl | rfl | rfl <;> decide
theorem z_and2 (x : Int) (h : 0 ≤ x ∧ x ≤ 3) : zand x 2 = 2 * (x / 2 % 2) := by
  have : x = 0 ∨ x = 1 ∨ x = 2 ∨ x = 3 := by omega
  rcases this with rfl | rfl | rfl | rfl <;> decide
theorem c_isHood {b : Int} (hx : 0 ≤ x ∧ x < 23) (hh : 0 ≤ μ 3 x ∧ μ 3 x ≤ 3) (hb : b = 0 ∨ b = 1) (h1 : (b = 1 ∧ μ 3 x / 2 % 2 = 1 ∨ b = 0 ∧ μ 3 x % 2 = 1) → K (some (.inl 1)) μ) (h0 : ¬ (b = 1 ∧ μ 3 x / 2 % 2 = 1 ∨ b = 0 ∧ μ 3 x % 2 = 1) → K (some (.inl 0)) μ) : zCall g d 39 [.inr (.inr ((0, 4), 1)), .inl x, .inl b] μ K := by
  refine zcX4_isHood [] 60 rfl (fun _ _ => ?_)
  have e1 := z_and1 (μ 3 x) hh
  have e2 := z_and2 (μ 3 x) hh
  repeat' first
    | refine And.intro (fun _ => ?_) (fun _ => ?_)
    | refine And.intro ?_ ?_
  all_goals first | omega | exact h1 (by omega) | exact h0 (by omega)
theorem f_hood_t (hx : 0 ≤ x ∧ x < 23) : f_hood (vC μ s) x true = decide (μ 3 x / 2 % 2 = 1) := by
  have e3 : vC μ s 7 x = μ 3 x := y_in hx
  simp only [f_hood, e3]
theorem f_hood_f (hx : 0 ≤ x ∧ x < 23) : f_hood (vC μ s) x false = decide (μ 3 x % 2 = 1) := by
  have e3 : vC μ s 7 x = μ 3 x := y_in hx
  simp only [f_hood, e3]
theorem c_has (h1 : 0 ≤ x ∧ x < μ 5 0 → K (some (.inl 1)) μ) (h0 : ¬ (0 ≤ x ∧ x < μ 5 0) → K (some (.inl 0)) μ) : zCall g d 31 [.inr (.inr ((0, 3), 5)), .inl x] μ K := by
  refine zcX3_has [] 60 rfl (fun _ _ => ?_)
  repeat' first
    | refine And.intro (fun _ => ?_) (fun _ => ?_)
    | refine And.intro ?_ ?_
  all_goals first | omega | exact h1 (by omega) | exact h0 (by omega)
theorem c_onRoad (he : 0 ≤ e ∧ e < 12) (h1 : μ (s + 3) e = -1 → K (some (.inl 1)) μ) (h0 : ¬ μ (s + 3) e = -1 → K (some (.inl 0)) μ) : zCall g d 58 [.inr (.inr ((0, 7), s)), .inl e] μ K := by
  refine zcX7_onRoad [] 60 rfl (fun _ _ => ?_)
  repeat' first
    | refine And.intro (fun _ => ?_) (fun _ => ?_)
    | refine And.intro ?_ ?_
  all_goals first | omega | exact h1 (by omega) | exact h0 (by omega)
theorem c_isDead (h1 : ¬ zand (zshr (μ s 2) e) 1 = 0 → K (some (.inl 1)) μ) (h0 : zand (zshr (μ s 2) e) 1 = 0 → K (some (.inl 0)) μ) : zCall g d 59 [.inr (.inr ((0, 7), s)), .inl e] μ K := by
  refine zcX7_isDead [] 60 rfl (fun _ _ => ?_)
  repeat' first
    | refine And.intro (fun _ => ?_) (fun _ => ?_)
    | refine And.intro ?_ ?_
  all_goals first | omega | exact h1 (by assumption) | exact h0 (by assumption)
theorem c_atBack (he : 0 ≤ e ∧ e < 12) (hp : -1 ≤ μ (s + 3) e ∧ μ (s + 3) e < 23) (h1 : ¬ μ (s + 3) e = -1 ∧ μ (s + 1) (μ (s + 3) e) = e → K (some (.inl 1)) μ) (h0 : ¬ (¬ μ (s + 3) e = -1 ∧ μ (s + 1) (μ (s + 3) e) = e) → K (some (.inl 0)) μ) : zCall g d 60 [.inr (.inr ((0, 7), s)), .inl e] μ K := by
  refine zcX7_atBack [] 60 rfl (fun _ _ => ?_)
  repeat' first
    | refine And.intro (fun _ => ?_) (fun _ => ?_)
    | refine And.intro ?_ ?_
  all_goals first | omega | exact h1 (by omega) | exact h0 (by omega)
theorem c_inFrontOf (hd : 1 ≤ d) (he : 0 ≤ e ∧ e < 12) (hp : -1 ≤ μ (s + 3) e ∧ μ (s + 3) e < 23) (h : K (some (.inl (f_ahead (vC μ s) e))) μ) : zCall g d 61 [.inr (.inr ((0, 7), s)), .inl e] μ K := by
  refine zcX7_inFrontOf [] 60 rfl (fun _ _ => ?_)
  have e1 : vC μ s 2 e = μ (s + 3) e := y_in he
  refine And.intro (by omega) (c_atBack he hp (fun q => ?_) (fun q => ?_))
  · have e2 : vC μ s 0 (μ (s + 3) e) = μ (s + 1) (μ (s + 3) e) := y_in (by omega)
    have e3 : vC μ s 1 (μ (s + 3) e) = μ (s + 2) (μ (s + 3) e) := y_in (by omega)
    have e4 : f_ahead (vC μ s) e = μ (s + 2) (μ (s + 3) e) := by
      simp only [f_ahead, f_atb, e1, e2, e3, decide_eq_true_eq]
      rw [if_pos q]
    rw [e4] at h
    repeat' first
      | refine And.intro (fun _ => ?_) (fun _ => ?_)
      | refine And.intro ?_ ?_
    all_goals first | omega | exact h
  · have e4 : f_ahead (vC μ s) e = -1 := by
      simp only [f_ahead, f_atb, e1, decide_eq_true_eq]
      rw [if_neg]
      intro q2
      refine q ⟨q2.1, ?_⟩
      have e2 : vC μ s 0 (μ (s + 3) e) = μ (s + 1) (μ (s + 3) e) := y_in (by omega)
      rw [← e2]
      exact q2.2
    rw [e4] at h
    repeat' first
      | refine And.intro (fun _ => ?_) (fun _ => ?_)
      | refine And.intro ?_ ?_
    all_goals first | omega | exact h
end CL
