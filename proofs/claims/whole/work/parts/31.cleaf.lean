/-! the class's small methods -/
section CL
variable {g : zG} {d : Nat} {K : Option zV → zM → Prop} {μ : zM} {s : Nat} {e a b x : Int}
theorem c_steps (hn : 0 ≤ μ 1 0 ∧ μ 1 0 ≤ 23) (ha : 0 ≤ a ∧ a ≤ 23) (hb : 0 ≤ b ∧ b ≤ 23) (h : K (some (.inl (f_steps (μ 1 0) a b))) μ) : zCall g d 37 [.inr (.inr ((0, 4), 1)), .inl a, .inl b] μ K := by
  refine zcX4_stepsBetween [] 60 rfl (fun _ _ => ?_)
  refine And.intro (fun h1 => ?_) (fun h1 => ?_)
  · refine And.intro (fun h2 => ?_) (fun h2 => ?_) <;> (refine k_int h ?_; unfold f_steps zw at *; omega)
  · refine And.intro (fun h2 => ?_) (fun h2 => ?_) <;> (refine k_int h ?_; unfold f_steps zw at *; omega)
theorem c_onRoad (he : 0 ≤ e ∧ e < 12) (h : K (some (.inl (zB (decide (μ (s + 3) e = -1))))) μ) : zCall g d 58 [.inr (.inr ((0, 7), s)), .inl e] μ K := by
  refine zcX7_onRoad [] 60 rfl (fun _ _ => ?_)
  refine And.intro he (And.intro (fun h1 => ?_) (fun h1 => ?_))
  · refine And.intro (Or.inl rfl) (k_zero h ?_)
    simpa using h1
  · refine And.intro (Or.inr rfl) (k_one h ?_)
    simpa using h1
theorem c_pointOf (he : 0 ≤ e ∧ e < 12) (hd : 1 ≤ d) (h : K (some (.inl (f_point (vC μ s) e))) μ) : zCall g d 92 [.inr (.inr ((0, 10), 25)), .inr (.inr ((0, 7), s)), .inl e] μ K := by
  refine zcX10_pointOf [] 60 rfl (fun _ _ => ?_)
  refine And.intro (by omega) (c_onRoad he ?_)
  trace_state
  sorry
end CL
