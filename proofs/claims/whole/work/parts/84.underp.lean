-- needs 83
/-! under: who smokes behind a move; one mover; the reference's call -/
theorem z_lp_inv {A : Type} {f : Nat → A → A} {Q : A → Prop} (hf : ∀ j a, Q a → Q (f j a)) : ∀ (k i : Nat) (a : A), Q a → Q (z_lp f k i a)
  | 0, _, _, h => h
  | k + 1, i, a, h => z_lp_inv hf k (i + 1) (f i a) (hf i a h)
/-- one step of it makes it so, the others keep it -/
theorem z_lp_has {A : Type} {f : Nat → A → A} {Q : A → Prop} (hf : ∀ j a, Q a → Q (f j a)) {e : Nat} (he : ∀ a, Q (f e a)) : ∀ (k i : Nat) (a : A), i ≤ e → e < i + k → Q (z_lp f k i a)
  | 0, i, _, h1, h2 => by omega
  | k + 1, i, a, h1, h2 => by
    by_cases q : i = e
    · subst q
      exact z_lp_inv hf k (i + 1) _ (he a)
    · exact z_lp_has hf he k (i + 1) _ (by omega) (by omega)
/-- but one step does nothing -/
theorem z_lp_only {A : Type} {f : Nat → A → A} {e n : Nat} (hf : ∀ j a, j < n → ¬ j = e → f j a = a) : ∀ (k i : Nat) (a : A), i + k ≤ n → i ≤ e → e < i + k → z_lp f k i a = f e a
  | 0, i, _, h0, h1, h2 => by omega
  | k + 1, i, a, h0, h1, h2 => by
    show z_lp f k (i + 1) (f i a) = f e a
    by_cases q : i = e
    · subst q
      exact z_lp_id k (i + 1) _ (fun j h1 _ => hf j _ (by omega) (by omega))
    · rw [hf i a (by omega) q]
      exact z_lp_only hf k (i + 1) a (by omega) (by omega) (by omega)
theorem fr_c_le1 {D e : Nat} : ∀ n : Nat, (∀ i, i < n → D.testBit i = true → i = e) → fr_c D n ≤ (if e < n then 1 else 0)
  | 0, _ => by simp [fr_c]
  | n + 1, h => by
    have ih := fr_c_le1 (D := D) (e := e) n (fun i hi => h i (by omega))
    simp only [fr_c]
    by_cases q : D.testBit n = true
    · have := h n (by omega) q
      rw [if_pos q]
      rw [if_neg (by omega)] at ih
      rw [if_pos (by omega)]
      omega
    · rw [if_neg q]
      split at ih
      · rw [if_pos (by omega)]; omega
      · split <;> omega
theorem fr_c_1 {D : Nat} : ∀ n : Nat, fr_c D n = 1 → ∃ e, e < n ∧ ∀ i, i < n → D.testBit i = decide (i = e)
  | 0, h => by simp [fr_c] at h
  | n + 1, h => by
    simp only [fr_c] at h
    by_cases q : D.testBit n = true
    · rw [if_pos q] at h
      have h0 := fr_c_0 D n (by omega)
      refine ⟨n, by omega, fun i hi => ?_⟩
      by_cases q2 : i = n
      · subst q2; simp [q]
      · rw [h0 i (by omega)]; simp [q2]
    · rw [if_neg q] at h
      obtain ⟨e, he, hh⟩ := fr_c_1 n (by omega)
      refine ⟨e, by omega, fun i hi => ?_⟩
      by_cases q2 : i = n
      · subst q2
        have : ¬ i = e := by omega
        simp [this]; simpa using q
      · exact hh i (by omega)
section
variable {Y : zM} {e i : Nat} {p t : Int} {P : List Int} {a : zBst}
/-- part 0 behind a move -/
theorem f_bring_0 (hp : ¬ p = Y 13 0) (hpe : ¬ p = Y 2 (e : Int)) (x : Int) : f_bring Y (e : Int) p t 0 x = if x = p then (if Y 0 p = -1 then (e : Int) else Y 0 p) else if ¬ Y 2 (e : Int) = -1 ∧ x = Y 2 (e : Int) ∧ Y 0 x = (e : Int) then -1 else Y 0 x := by
  have o0 : ∀ x, f_out Y (e : Int) 0 x = if ¬ Y 2 (e : Int) = -1 ∧ x = Y 2 (e : Int) ∧ Y 0 x = (e : Int) then -1 else Y 0 x := by
    intro x
    unfold f_out
    by_cases q : Y 2 (e : Int) = -1
    · rw [if_pos q, if_neg (fun h => h.1 q)]
    · rw [if_neg q, zU_ne (by omega)]
      by_cases q2 : Y 0 (Y 2 (e : Int)) = (e : Int)
      · rw [if_pos q2]
        by_cases q3 : x = Y 2 (e : Int)
        · subst q3
          rw [zU_eq, if_pos ⟨q, rfl, q2⟩]
        · rw [zU_ne (by omega), if_neg (fun h => q3 h.2.1)]
      · rw [if_neg q2, zU_ne (by omega), if_neg]
        intro h
        rw [h.2.1] at h
        exact q2 h.2.2
  unfold f_bring f_put f_in
  rw [zU_ne (by omega), zU_ne (by omega), f_out_13, if_neg hp, zU_ne (by omega)]
  have op : f_out Y (e : Int) 0 p = Y 0 p := by rw [o0, if_neg (fun h => hpe h.2.1)]
  rw [op]
  by_cases q : Y 0 p = -1
  · rw [if_pos q, if_pos q]
    by_cases q2 : x = p
    · subst q2
      rw [zU_eq, if_pos rfl]
    · rw [zU_ne (by omega), if_neg q2, o0]
  · rw [if_neg q, if_neg q, zU_ne (by omega)]
    by_cases q2 : x = p
    · subst q2
      rw [if_pos rfl, op]
    · rw [if_neg q2, o0]
theorem smk_bring (hW : y_W Y) (he : (e : Int) < Y 13 3) (hc : f_can Y (e : Int) p = true) (hp : 0 ≤ p ∧ p < Y 13 0) (hl : ¬ Y 3 (e : Int) = -1) (i : Nat) : f_smk (f_bring Y (e : Int) p t) i = if i = e then !f_hood Y p (decide (Y 0 p = -1)) else f_smk Y i := by
  have w := hW.1
  have hne : ¬ p = f_point Y (e : Int) := by
    unfold f_can at hc
    simp at hc
    exact hc.1
  have hpe : ¬ p = Y 2 (e : Int) := by
    intro hh
    unfold f_point at hne
    rw [if_neg (by omega)] at hne
    exact hne hh
  have z0 := fun x => f_bring_0 (t := t) (by omega) hpe x
  have z2 := fun j => f_bring_2 (Y := Y) (e := (e : Int)) (p := p) (t := t) (i := j)
  have z3 : f_bring Y (e : Int) p t 3 = Y 3 := f_bring_k (by omega) (by omega)
  have z7 : f_bring Y (e : Int) p t 7 = Y 7 := f_bring_k (by omega) (by omega)
  have zh : ∀ s b, f_hood (f_bring Y (e : Int) p t) s b = f_hood Y s b := by
    intro s b
    unfold f_hood
    rw [z7]
  unfold f_smk f_hooded f_atb
  rw [z3, z2, zh, z0]
  by_cases q : i = e
  · subst q
    rw [if_pos rfl, if_pos rfl, if_neg (by omega), if_pos rfl]
    have wp := (hW.2.2.1 p (by omega)).2.2.1
    have key : (¬ p = -1 ∧ (if Y 0 p = -1 then (i : Int) else Y 0 p) = (i : Int)) ↔ Y 0 p = -1 := by
      constructor
      · intro h
        by_cases q0 : Y 0 p = -1
        · exact q0
        · have h2 := h.2
          rw [if_neg q0] at h2
          have := wp q0
          rw [h2] at this
          exact absurd this.symm hpe
      · intro h
        exact ⟨by omega, by rw [if_pos h]⟩
    have kd : decide (¬ p = -1 ∧ (if Y 0 p = -1 then (i : Int) else Y 0 p) = (i : Int)) = decide (Y 0 p = -1) := decide_eq_decide.2 key
    rw [kd, decide_eq_true hl, decide_eq_true (show ¬ p = -1 by omega)]
    simp
  · have qi : ¬ (i : Int) = (e : Int) := by omega
    rw [if_neg qi, if_neg q]
    by_cases q2 : Y 2 (i : Int) = -1
    · simp [q2]
    · have key : (¬ Y 2 (i : Int) = -1 ∧ (if Y 2 (i : Int) = p then (if Y 0 p = -1 then (e : Int) else Y 0 p) else if ¬ Y 2 (e : Int) = -1 ∧ Y 2 (i : Int) = Y 2 (e : Int) ∧ Y 0 (Y 2 (i : Int)) = (e : Int) then -1 else Y 0 (Y 2 (i : Int))) = (i : Int)) ↔ (¬ Y 2 (i : Int) = -1 ∧ Y 0 (Y 2 (i : Int)) = (i : Int)) := by
        refine and_congr_right (fun _ => ?_)
        by_cases q3 : Y 2 (i : Int) = p
        · rw [if_pos q3, q3]
          by_cases q4 : Y 0 p = -1
          · rw [if_pos q4]; omega
          · rw [if_neg q4]
        · rw [if_neg q3]
          split
          · rename_i h
            omega
          · exact Iff.rfl
      rw [decide_eq_decide.2 key]
def sm (Y : zM) : Nat := f_bits (f_smk Y) 12
theorem sm_lt : sm Y < 4096 := f_bits_lt _ 12
theorem sm_t (i : Nat) : (sm Y).testBit i = (decide (i < 12) && f_smk Y i) := f_bits_test _ 12 i
theorem sm_0 : f_smoke Y = 0 ↔ ∀ i, i < 12 → f_smk Y i = false := by
  have := f_bits_0 (p := f_smk Y) (n := 12)
  unfold f_smoke
  rw [← this]
  omega
theorem may_lit (h : f_may Y (e : Int) t = true) : ¬ Y 3 (e : Int) = -1 := by
  unfold f_may f_steam at h
  simp at h
  exact h.1.1
/-- none of two or more goes by one move -/
theorem un1_two (hW : y_W Y) (h : 2 ≤ fr_c (sm Y) 12) : un 1 Y t P a = a := by
  have w := hW.1
  show z_lp (un_e (un 0) Y t P) (Y 13 3).toNat 0 a = a
  refine z_lp_id _ _ _ (fun e _ he => z_lp_id _ _ _ (fun p _ hp => ?_))
  unfold un_p
  split
  · rename_i q
    refine if_neg (fun h0 => ?_)
    rw [sm_0] at h0
    have := fr_c_le1 (D := sm Y) (e := e) 12 (fun i hi hb => by
      rcases Nat.decEq i e with q2 | q2
      · have h1 := h0 i hi
        rw [smk_bring hW (by omega) q.2 (by omega) (may_lit q.1), if_neg q2] at h1
        rw [sm_t, h1] at hb
        simp at hb
      · exact q2)
    split at this <;> omega
  · rfl
def uh (Y : zM) (e : Nat) (t : Int) (P : List Int) (p : Nat) (a : zBst) : zBst := if (f_may Y (e : Int) (Y 5 1) = true ∧ f_can Y (e : Int) (p : Int) = true) ∧ f_hood Y (p : Int) (decide (Y 0 (p : Int) = -1)) = true then b_off a (t + f_min Y (f_point Y (e : Int)) (p : Int)) (P ++ [(e : Int)] ++ [(p : Int)]) else a
/-- the one that smokes goes under a hood -/
theorem un1_one (hW : y_W Y) (he : (e : Int) < Y 13 3) (h : ∀ i, i < 12 → f_smk Y i = decide (i = e)) : un 1 Y t P a = z_lp (uh Y e t P) (Y 13 0).toNat 0 a := by
  have w := hW.1
  have other : ∀ (j : Nat) (a : zBst), j < (Y 13 3).toNat → ¬ j = e → un_e (un 0) Y t P j a = a := by
    intro j a hj3 hj
    refine z_lp_id _ _ _ (fun p _ hp => ?_)
    unfold un_p
    split
    · rename_i q
      refine if_neg (fun h0 => ?_)
      rw [sm_0] at h0
      have h1 := h0 e (by omega)
      rw [smk_bring hW (by omega) q.2 (by omega) (may_lit q.1), if_neg (by omega), h e (by omega)] at h1
      simp at h1
    · rfl
  show z_lp (un_e (un 0) Y t P) (Y 13 3).toNat 0 a = _
  rw [z_lp_only other _ _ _ (by omega) (by omega) (by omega)]
  refine z_lp_congr _ _ _ (fun p a _ hp => ?_)
  unfold un_p uh
  by_cases q : f_may Y (e : Int) (Y 5 1) = true ∧ f_can Y (e : Int) (p : Int) = true
  · rw [if_pos q]
    show (if f_smoke (f_bring Y (e : Int) (p : Int) (f_min Y (f_point Y (e : Int)) (p : Int))) = 0 then _ else _) = _
    by_cases q2 : f_hood Y (p : Int) (decide (Y 0 (p : Int) = -1)) = true
    · have h0 : f_smoke (f_bring Y (e : Int) (p : Int) (f_min Y (f_point Y (e : Int)) (p : Int))) = 0 := by
        rw [sm_0]
        intro i hi
        rw [smk_bring hW he q.2 (by omega) (may_lit q.1), q2, h i hi]
        split
        · rfl
        · simp; assumption
      rw [if_pos h0, if_pos ⟨q, q2⟩]
    · have h0 : ¬ f_smoke (f_bring Y (e : Int) (p : Int) (f_min Y (f_point Y (e : Int)) (p : Int))) = 0 := by
        intro h0
        rw [sm_0] at h0
        have := h0 e (by omega)
        rw [smk_bring hW he q.2 (by omega) (may_lit q.1), if_pos rfl] at this
        simp at this
        exact q2 this
      rw [if_neg h0, if_neg (fun hh => q2 hh.2)]
  · rw [if_neg q, if_neg (fun hh => q hh.1)]
/-- where one move does not help, none leaves nobody that smokes -/
theorem un1_none (hW : y_W Y) (h : un 1 Y t P none = none) (he : (e : Int) < Y 13 3) {p : Nat} (hp : (p : Int) < Y 13 0) (q : f_may Y (e : Int) (Y 5 1) = true ∧ f_can Y (e : Int) (p : Int) = true) : ¬ f_smoke (f_bring Y (e : Int) (p : Int) (f_min Y (f_point Y (e : Int)) (p : Int))) = 0 := by
  have w := hW.1
  intro h0
  have bo : ∀ (a : zBst) (t : Int) (P : List Int), ¬ b_off a t P = none := by
    intro a t P
    cases a with
    | none => intro h; cases h
    | some r =>
      show ¬ (if t < r.1 then some (t, P) else some r) = none
      split <;> (intro h; cases h)
  have k0 : ∀ (Z : zM) (t : Int) (P : List Int) (a : zBst), ¬ a = none → ¬ un 0 Z t P a = none := by
    intro Z t P a ha
    show ¬ (if f_smoke Z = 0 then b_off a t P else a) = none
    split
    · exact bo _ _ _
    · exact ha
  have kp : ∀ (e' j : Nat) (a : zBst), ¬ a = none → ¬ un_p (un 0) Y t P e' j a = none := by
    intro e' j a ha
    unfold un_p
    split
    · exact k0 _ _ _ _ ha
    · exact ha
  have ke : ∀ (j : Nat) (a : zBst), ¬ a = none → ¬ un_e (un 0) Y t P j a = none := fun j a ha => z_lp_inv (Q := fun a => ¬ a = none) (kp j) _ _ _ ha
  refine z_lp_has (f := un_e (un 0) Y t P) (Q := fun a => ¬ a = none) ke (e := e) (fun a => ?_) (Y 13 3).toNat 0 none (by omega) (by omega) h
  refine z_lp_has (f := un_p (un 0) Y t P e) (Q := fun a => ¬ a = none) (kp e) (e := p) (fun a => ?_) (Y 13 0).toNat 0 a (by omega) (by omega)
  unfold un_p
  rw [if_pos q]
  show ¬ (if f_smoke _ = 0 then _ else _) = none
  rw [if_pos h0]
  exact bo _ _ _
end
