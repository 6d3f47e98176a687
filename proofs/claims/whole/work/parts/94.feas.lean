-- needs 93
/-! burns: whether there is a row at all -/
def fe (X : zM) : List Nat → (Int → Int) → Bool
  | [], T => decide (cg_ok X T)
  | e :: es, T => z_lp (fun j b => b || fe X es (cg_up X T e j)) (3 - (X 3 (e : Int)).toNat) (X 3 (e : Int)).toNat false
theorem z_lp_or {G : Nat → Bool} : ∀ (c x : Nat) (b : Bool), z_lp (fun j b => b || G j) c x b = (b || z_lp (fun j b => b || G j) c x false)
  | 0, _, b => by simp [z_lp]
  | c + 1, x, b => by
    show z_lp (fun j b => b || G j) c (x + 1) (b || G x) = (b || z_lp (fun j b => b || G j) c (x + 1) (false || G x))
    rw [z_lp_or c (x + 1) (b || G x), z_lp_or c (x + 1) (false || G x), Bool.false_or, Bool.or_assoc]
theorem cg_fe (X : zM) : ∀ (es : List Nat) (T : Int → Int) (P : List Int) (a : zBst), cg X es T P a = none ↔ (a = none ∧ fe X es T = false) := by
  intro es
  induction es with
  | nil =>
    intro T P a
    show (if cg_ok X T then b_off a (1000 * T 2 + T 1) P else a) = none ↔ (a = none ∧ decide (cg_ok X T) = false)
    by_cases q : cg_ok X T
    · rw [if_pos q, decide_eq_true q]
      constructor
      · intro h
        cases a with
        | none => cases h
        | some r =>
          have h : (if 1000 * T 2 + T 1 < r.1 then some (1000 * T 2 + T 1, P) else some r) = none := h
          split at h <;> cases h
      · intro h
        cases h.2
    · rw [if_neg q, decide_eq_false q]
      exact ⟨fun h => ⟨h, rfl⟩, fun h => h.1⟩
  | cons e es ih =>
    intro T P a
    have lp : ∀ (c x : Nat) (a : zBst), z_lp (fun j a => cg X es (cg_up X T e j) (P ++ [(j : Int)]) a) c x a = none ↔ (a = none ∧ z_lp (fun j b => b || fe X es (cg_up X T e j)) c x false = false) := by
      intro c
      induction c with
      | zero => intro x a; exact ⟨fun h => ⟨h, rfl⟩, fun h => h.1⟩
      | succ c ih2 =>
        intro x a
        show z_lp _ c (x + 1) (cg X es (cg_up X T e x) (P ++ [(x : Int)]) a) = none ↔ (a = none ∧ z_lp (fun j b => b || fe X es (cg_up X T e j)) c (x + 1) (false || fe X es (cg_up X T e x)) = false)
        rw [ih2 (x + 1), ih, z_lp_or (G := fun j => fe X es (cg_up X T e j)) c (x + 1) (false || fe X es (cg_up X T e x)), Bool.false_or, Bool.or_eq_false_iff, and_assoc]
    exact lp _ _ a
