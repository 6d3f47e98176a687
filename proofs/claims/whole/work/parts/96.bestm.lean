-- needs 95
/-! burns: the best of a loop over numbers, by what is true of it -/
def bb (ok : Nat → Prop) (c : Nat → Nat) (hi b : Nat) : Prop := (b = 0 ∨ (1 ≤ b ∧ b < hi ∧ ok b)) ∧ ∀ m, 1 ≤ m → m < hi → ok m → c m ≤ c b ∧ (c m = c b → b ≤ m)
theorem bb_loop {ok : Nat → Prop} {c : Nat → Nat} {f : Nat → Nat → Nat} (hf : ∀ m b, (ok m ∧ c b < c m → f m b = m) ∧ (¬ (ok m ∧ c b < c m) → f m b = b)) : ∀ (k lo b : Nat), 1 ≤ lo → bb ok c lo b → bb ok c (lo + k) (z_lp f k lo b)
  | 0, _, _, _, h => h
  | k + 1, lo, b, hlo, h => by
    have step : bb ok c (lo + 1) (f lo b) := by
      obtain ⟨h1, h2⟩ := h
      rcases Classical.em (ok lo ∧ c b < c lo) with q | q
      · rw [(hf lo b).1 q]
        refine ⟨Or.inr ⟨hlo, by omega, q.1⟩, fun m m1 m2 mo => ?_⟩
        rcases Nat.lt_or_ge m lo with q2 | q2
        · have := (h2 m m1 q2 mo).1
          exact ⟨by omega, fun e => by omega⟩
        · obtain rfl : m = lo := by omega
          exact ⟨by omega, fun _ => by omega⟩
      · rw [(hf lo b).2 q]
        refine ⟨?_, fun m m1 m2 mo => ?_⟩
        · rcases h1 with h1 | h1
          · exact Or.inl h1
          · exact Or.inr ⟨h1.1, by omega, h1.2.2⟩
        · rcases Nat.lt_or_ge m lo with q2 | q2
          · exact h2 m m1 q2 mo
          · obtain rfl : m = lo := by omega
            have : ¬ c b < c m := fun hh => q ⟨mo, hh⟩
            refine ⟨by omega, fun _ => ?_⟩
            rcases h1 with h1 | h1
            · omega
            · omega
    have := bb_loop hf k (lo + 1) (f lo b) (by omega) step
    rw [show lo + (k + 1) = lo + 1 + k from by omega]
    exact this
theorem bb_uniq {ok : Nat → Prop} {c : Nat → Nat} {hi b b' : Nat} (c0 : c 0 = 0) (cp : ∀ m, 1 ≤ m → ok m → 0 < c m) (h : bb ok c hi b) (h' : bb ok c hi b') : b = b' := by
  obtain ⟨h1, h2⟩ := h
  obtain ⟨h1', h2'⟩ := h'
  rcases h1 with q | q
  · rcases h1' with q' | q'
    · omega
    · have := (h2 b' q'.1 q'.2.1 q'.2.2).1
      have := cp b' q'.1 q'.2.2
      rw [q, c0] at *
      omega
  · rcases h1' with q' | q'
    · have := (h2' b q.1 q.2.1 q.2.2).1
      have := cp b q.1 q.2.2
      rw [q', c0] at *
      omega
    · have a1 := h2 b' q'.1 q'.2.1 q'.2.2
      have a2 := h2' b q.1 q.2.1 q.2.2
      have e : c b = c b' := by omega
      have := a1.2 e.symm
      have := a2.2 e
      omega
