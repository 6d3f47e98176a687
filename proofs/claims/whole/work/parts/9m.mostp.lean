-- needs 9l
/-! most, fails: the best row, as the reference finds it -/
/-- yard, rest, who is left out, whether the plan counts, trains, engines -/
abbrev zMf : Type := zM × zM × Int × Int × Nat × Nat
def mf_n (P : zMf) : Nat := P.2.2.2.2.1
def mf_E (P : zMf) : Nat := P.2.2.2.2.2
def mf_k (P : zMf) (t e : Nat) : Bool := decide (¬ (e : Int) = P.2.2.1) && f_fit P.1 P.2.1 (e : Int) (t : Int)
def mf_p (P : zMf) (t : Nat) (c : Int) : Int := if ¬ P.2.2.2.1 = 0 ∧ ¬ P.2.1 7 (t : Int) = c then 1 else 0
def mf_w (P : zMf) (t : Nat) (c : Int) : Int := (if c = -1 then 0 else 16) - mf_p P t c
def mf_W (P : zMf) : Nat → Nat → Int
  | 0, _ => 0
  | k + 1, s => z_lp (fun e v => if s.testBit e = true ∨ mf_k P (mf_n P - (k + 1)) e = false then v else max v (mf_W P k (s ||| 2 ^ e) + mf_w P (mf_n P - (k + 1)) (e : Int))) (mf_E P) 0 (mf_W P k s + mf_w P (mf_n P - (k + 1)) (-1))
def mf_c (P : zMf) (k s : Nat) : Int × Bool := z_lp (fun e q => if q.2 = true then q else if s.testBit e = true ∨ mf_k P (mf_n P - (k + 1)) e = false then q else ((e : Int), decide (mf_W P k (s ||| 2 ^ e) + mf_w P (mf_n P - (k + 1)) (e : Int) = mf_W P (k + 1) s))) (mf_E P) 0 (-1, decide (mf_W P k s + mf_w P (mf_n P - (k + 1)) (-1) = mf_W P (k + 1) s))
def mf_s (s : Nat) (c : Int) : Nat := if c = -1 then s else s ||| 2 ^ c.toNat
def mf_R (P : zMf) : Nat → Nat → List Int
  | 0, _ => []
  | k + 1, s => (mf_c P k s).1 :: mf_R P k (mf_s s (mf_c P k s).1)
/-! rows that may be -/
def mf_V (P : zMf) : Nat → Nat → List Int → Prop
  | 0, _, r => r = []
  | _ + 1, _, [] => False
  | k + 1, s, c :: r => (c = -1 ∧ mf_V P k s r) ∨ ∃ e : Nat, e < mf_E P ∧ c = (e : Int) ∧ s.testBit e = false ∧ mf_k P (mf_n P - (k + 1)) e = true ∧ mf_V P k (s ||| 2 ^ e) r
def mf_v (P : zMf) : Nat → List Int → Int
  | k + 1, c :: r => mf_w P (mf_n P - (k + 1)) c + mf_v P k r
  | _, _ => 0
def mf_cd (P : zMf) : Nat → List Int → Int
  | k + 1, c :: r => (c + 1) * (13 : Int) ^ (k + (8 - mf_n P)) + mf_cd P k r
  | _, _ => 0
theorem z_mx {bad : Nat → Prop} [DecidablePred bad] {f : Nat → Int} {v : Int} : ∀ m : Nat, v ≤ z_lp (fun e v => if bad e then v else max v (f e)) m 0 v ∧ (∀ e, e < m → ¬ bad e → f e ≤ z_lp (fun e v => if bad e then v else max v (f e)) m 0 v) ∧ (z_lp (fun e v => if bad e then v else max v (f e)) m 0 v = v ∨ ∃ e, e < m ∧ ¬ bad e ∧ z_lp (fun e v => if bad e then v else max v (f e)) m 0 v = f e)
  | 0 => ⟨Int.le_refl _, fun e he => by omega, Or.inl rfl⟩
  | m + 1 => by
    obtain ⟨h1, h2, h3⟩ := z_mx (bad := bad) (f := f) (v := v) m
    rw [z_lp_snoc, Nat.zero_add]
    generalize z_lp (fun e v => if bad e then v else max v (f e)) m 0 v = w at *
    by_cases q : bad m
    · rw [if_pos q]
      refine ⟨h1, fun e he hb => ?_, ?_⟩
      · rcases Nat.lt_or_ge e m with q2 | q2
        · exact h2 e q2 hb
        · obtain rfl : e = m := by omega
          exact absurd q hb
      · rcases h3 with h3 | ⟨e, a, b, c⟩
        · exact Or.inl h3
        · exact Or.inr ⟨e, by omega, b, c⟩
    · rw [if_neg q]
      refine ⟨by omega, fun e he hb => ?_, ?_⟩
      · rcases Nat.lt_or_ge e m with q2 | q2
        · have := h2 e q2 hb
          omega
        · obtain rfl : e = m := by omega
          omega
      · by_cases q3 : w ≤ f m
        · exact Or.inr ⟨m, by omega, q, by omega⟩
        · rcases h3 with h3 | ⟨e, a, b, c⟩
          · exact Or.inl (by omega)
          · exact Or.inr ⟨e, by omega, b, by omega⟩
theorem z_fst {bad p : Nat → Prop} [DecidablePred bad] [DecidablePred p] {b0 : Bool} : ∀ m : Nat, ((z_lp (fun e (q : Int × Bool) => if q.2 = true then q else if bad e then q else ((e : Int), decide (p e))) m 0 (-1, b0)).2 = false ∧ b0 = false ∧ ∀ e, e < m → ¬ bad e → ¬ p e) ∨ (z_lp (fun e (q : Int × Bool) => if q.2 = true then q else if bad e then q else ((e : Int), decide (p e))) m 0 (-1, b0) = (-1, true) ∧ b0 = true) ∨ ∃ e, e < m ∧ z_lp (fun e (q : Int × Bool) => if q.2 = true then q else if bad e then q else ((e : Int), decide (p e))) m 0 (-1, b0) = ((e : Int), true) ∧ b0 = false ∧ ¬ bad e ∧ p e ∧ ∀ e', e' < e → ¬ bad e' → ¬ p e'
  | 0 => by
    cases b0
    · exact Or.inl ⟨rfl, rfl, fun e he => by omega⟩
    · exact Or.inr (Or.inl ⟨rfl, rfl⟩)
  | m + 1 => by
    have ih := z_fst (bad := bad) (p := p) (b0 := b0) m
    rw [z_lp_snoc, Nat.zero_add]
    generalize z_lp (fun e (q : Int × Bool) => if q.2 = true then q else if bad e then q else ((e : Int), decide (p e))) m 0 (-1, b0) = w at *
    rcases ih with ⟨h1, h2, h3⟩ | ⟨h1, h2⟩ | ⟨e, h1, h2, h3, h4, h5, h6⟩
    · rw [if_neg (by rw [h1]; simp)]
      by_cases q : bad m
      · rw [if_pos q]
        refine Or.inl ⟨h1, h2, fun e he hb => ?_⟩
        rcases Nat.lt_or_ge e m with q2 | q2
        · exact h3 e q2 hb
        · obtain rfl : e = m := by omega
          exact absurd q hb
      · rw [if_neg q]
        by_cases q3 : p m
        · exact Or.inr (Or.inr ⟨m, by omega, by rw [decide_eq_true q3], h2, q, q3, h3⟩)
        · refine Or.inl ⟨by simp [q3], h2, fun e he hb => ?_⟩
          rcases Nat.lt_or_ge e m with q2 | q2
          · exact h3 e q2 hb
          · obtain rfl : e = m := by omega
            exact q3
    · rw [if_pos (by rw [h1])]
      exact Or.inr (Or.inl ⟨h1, h2⟩)
    · rw [if_pos (by rw [h2])]
      exact Or.inr (Or.inr ⟨e, by omega, h2, h3, h4, h5, h6⟩)
section
variable {P : zMf} {k s : Nat}
theorem mf_W_ge0 : mf_W P k s + mf_w P (mf_n P - (k + 1)) (-1) ≤ mf_W P (k + 1) s := (z_mx (mf_E P)).1
theorem mf_bad {e : Nat} (h1 : s.testBit e = false) (h2 : mf_k P (mf_n P - (k + 1)) e = true) : ¬ (s.testBit e = true ∨ mf_k P (mf_n P - (k + 1)) e = false) := by
  rw [h1, h2]
  simp
theorem mf_W_ge {e : Nat} (he : e < mf_E P) (h1 : s.testBit e = false) (h2 : mf_k P (mf_n P - (k + 1)) e = true) : mf_W P k (s ||| 2 ^ e) + mf_w P (mf_n P - (k + 1)) (e : Int) ≤ mf_W P (k + 1) s := (z_mx (mf_E P)).2.1 e he (mf_bad h1 h2)
theorem mf_W_is : mf_W P (k + 1) s = mf_W P k s + mf_w P (mf_n P - (k + 1)) (-1) ∨ ∃ e, e < mf_E P ∧ ¬ (s.testBit e = true ∨ mf_k P (mf_n P - (k + 1)) e = false) ∧ mf_W P (k + 1) s = mf_W P k (s ||| 2 ^ e) + mf_w P (mf_n P - (k + 1)) (e : Int) := (z_mx (mf_E P)).2.2
theorem mf_nb {e : Nat} (h : ¬ (s.testBit e = true ∨ mf_k P (mf_n P - (k + 1)) e = false)) : s.testBit e = false ∧ mf_k P (mf_n P - (k + 1)) e = true := by
  constructor
  · cases hb : s.testBit e
    · rfl
    · exact absurd (Or.inl hb) h
  · cases hb : mf_k P (mf_n P - (k + 1)) e
    · exact absurd (Or.inr hb) h
    · rfl
/-- the choice is the least that is worth it -/
theorem mf_c_is : ((mf_c P k s).1 = -1 ∧ mf_W P k s + mf_w P (mf_n P - (k + 1)) (-1) = mf_W P (k + 1) s) ∨ (¬ (mf_W P k s + mf_w P (mf_n P - (k + 1)) (-1) = mf_W P (k + 1) s) ∧ ∃ e, e < mf_E P ∧ (mf_c P k s).1 = (e : Int) ∧ s.testBit e = false ∧ mf_k P (mf_n P - (k + 1)) e = true ∧ mf_W P k (s ||| 2 ^ e) + mf_w P (mf_n P - (k + 1)) (e : Int) = mf_W P (k + 1) s ∧ ∀ e', e' < e → ¬ (s.testBit e' = true ∨ mf_k P (mf_n P - (k + 1)) e' = false) → ¬ mf_W P k (s ||| 2 ^ e') + mf_w P (mf_n P - (k + 1)) (e' : Int) = mf_W P (k + 1) s) := by
  have h := z_fst (bad := fun e => s.testBit e = true ∨ mf_k P (mf_n P - (k + 1)) e = false) (p := fun e => mf_W P k (s ||| 2 ^ e) + mf_w P (mf_n P - (k + 1)) (e : Int) = mf_W P (k + 1) s) (b0 := decide (mf_W P k s + mf_w P (mf_n P - (k + 1)) (-1) = mf_W P (k + 1) s)) (mf_E P)
  have e0 : mf_c P k s = z_lp (fun e (q : Int × Bool) => if q.2 = true then q else if s.testBit e = true ∨ mf_k P (mf_n P - (k + 1)) e = false then q else ((e : Int), decide (mf_W P k (s ||| 2 ^ e) + mf_w P (mf_n P - (k + 1)) (e : Int) = mf_W P (k + 1) s))) (mf_E P) 0 (-1, decide (mf_W P k s + mf_w P (mf_n P - (k + 1)) (-1) = mf_W P (k + 1) s)) := rfl
  rw [← e0] at h
  rcases h with ⟨h1, h2, h3⟩ | ⟨h1, h2⟩ | ⟨e, h1, h2, h3, h4, h5, h6⟩
  · have n0 := of_decide_eq_false h2
    rcases mf_W_is (P := P) (k := k) (s := s) with h | ⟨e, a, b, c⟩
    · exact absurd h.symm n0
    · exact absurd c.symm (h3 e a b)
  · exact Or.inl ⟨by rw [h1], of_decide_eq_true h2⟩
  · obtain ⟨a, b⟩ := mf_nb h4
    exact Or.inr ⟨of_decide_eq_false h3, e, h1, by rw [h2], a, b, h5, h6⟩
end
theorem mf_A1 (P : zMf) : ∀ (k s : Nat) (r : List Int), mf_V P k s r → mf_v P k r ≤ mf_W P k s
  | 0, _, r, h => by
    have h : r = [] := h
    subst h
    exact Int.le_refl _
  | k + 1, s, [], h => h.elim
  | k + 1, s, c :: r, h => by
    show mf_w P (mf_n P - (k + 1)) c + mf_v P k r ≤ mf_W P (k + 1) s
    rcases h with ⟨h1, h2⟩ | ⟨e, he, h1, h2, h3, h4⟩
    · have := mf_A1 P k s r h2
      have := mf_W_ge0 (P := P) (k := k) (s := s)
      rw [h1]
      omega
    · have := mf_A1 P k (s ||| 2 ^ e) r h4
      have := mf_W_ge (P := P) (k := k) (s := s) he h2 h3
      rw [h1]
      omega
theorem mf_A2 (P : zMf) : ∀ (k s : Nat), mf_V P k s (mf_R P k s) ∧ mf_v P k (mf_R P k s) = mf_W P k s
  | 0, _ => ⟨rfl, rfl⟩
  | k + 1, s => by
    have ih := mf_A2 P k (mf_s s (mf_c P k s).1)
    show ((((mf_c P k s).1 = -1 ∧ mf_V P k s (mf_R P k (mf_s s (mf_c P k s).1))) ∨ ∃ e : Nat, e < mf_E P ∧ (mf_c P k s).1 = (e : Int) ∧ s.testBit e = false ∧ mf_k P (mf_n P - (k + 1)) e = true ∧ mf_V P k (s ||| 2 ^ e) (mf_R P k (mf_s s (mf_c P k s).1)))) ∧ mf_w P (mf_n P - (k + 1)) (mf_c P k s).1 + mf_v P k (mf_R P k (mf_s s (mf_c P k s).1)) = mf_W P (k + 1) s
    rcases mf_c_is (P := P) (k := k) (s := s) with ⟨h1, h2⟩ | ⟨_, e, he, h1, h2, h3, h4, _⟩
    · have es : mf_s s (mf_c P k s).1 = s := if_pos h1
      rw [es] at ih ⊢
      rw [h1]
      exact ⟨Or.inl ⟨rfl, ih.1⟩, by omega⟩
    · have es : mf_s s (mf_c P k s).1 = s ||| 2 ^ e := by
        unfold mf_s
        rw [h1, if_neg (by omega), show ((e : Int)).toNat = e from by omega]
      rw [es] at ih ⊢
      rw [h1]
      exact ⟨Or.inr ⟨e, he, rfl, h2, h3, ih.1⟩, by omega⟩
theorem p13 (a : Nat) : (0 : Int) < 13 ^ a := Int.pow_pos (by omega)
theorem mf_cd_b (P : zMf) (hE : mf_E P ≤ 12) : ∀ (k s : Nat) (r : List Int), mf_V P k s r → 0 ≤ mf_cd P k r ∧ mf_cd P k r < (13 : Int) ^ (k + (8 - mf_n P))
  | 0, _, r, h => by
    have h : r = [] := h
    subst h
    exact ⟨Int.le_refl _, p13 _⟩
  | k + 1, s, [], h => h.elim
  | k + 1, s, c :: r, h => by
    have hc : -1 ≤ c ∧ c ≤ 11 ∧ ∃ s', mf_V P k s' r := by
      rcases h with ⟨h1, h2⟩ | ⟨e, he, h1, h2, h3, h4⟩
      · exact ⟨by omega, by omega, s, h2⟩
      · exact ⟨by omega, by omega, _, h4⟩
    obtain ⟨c1, c2, s', hs'⟩ := hc
    have ih := mf_cd_b P hE k s' r hs'
    show 0 ≤ (c + 1) * (13 : Int) ^ (k + (8 - mf_n P)) + mf_cd P k r ∧ (c + 1) * (13 : Int) ^ (k + (8 - mf_n P)) + mf_cd P k r < (13 : Int) ^ (k + 1 + (8 - mf_n P))
    have pp := p13 (k + (8 - mf_n P))
    rw [show k + 1 + (8 - mf_n P) = (k + (8 - mf_n P)) + 1 from by omega, Int.pow_succ]
    generalize (13 : Int) ^ (k + (8 - mf_n P)) = A at *
    have m1 : 0 ≤ (c + 1) * A := Int.mul_nonneg (by omega) (by omega)
    have m2 : (c + 1) * A ≤ 12 * A := Int.mul_le_mul_of_nonneg_right (by omega) (by omega)
    omega
theorem mf_A3 (P : zMf) (hE : mf_E P ≤ 12) : ∀ (k s : Nat) (r : List Int), mf_V P k s r → mf_v P k r = mf_W P k s → mf_cd P k (mf_R P k s) ≤ mf_cd P k r
  | 0, _, r, h, _ => by
    have h : r = [] := h
    subst h
    exact Int.le_refl _
  | k + 1, s, [], h, _ => h.elim
  | k + 1, s, c :: r, h, hv => by
    have hv : mf_w P (mf_n P - (k + 1)) c + mf_v P k r = mf_W P (k + 1) s := hv
    show ((mf_c P k s).1 + 1) * (13 : Int) ^ (k + (8 - mf_n P)) + mf_cd P k (mf_R P k (mf_s s (mf_c P k s).1)) ≤ (c + 1) * (13 : Int) ^ (k + (8 - mf_n P)) + mf_cd P k r
    have pp := p13 (k + (8 - mf_n P))
    -- c is worth it too
    have hc : mf_V P k (mf_s s c) r ∧ mf_v P k r = mf_W P k (mf_s s c) ∧ (mf_c P k s).1 ≤ c := by
      rcases h with ⟨h1, h2⟩ | ⟨e, he, h1, h2, h3, h4⟩
      · have a1 := mf_A1 P k s r h2
        have a2 := mf_W_ge0 (P := P) (k := k) (s := s)
        have es : mf_s s c = s := if_pos h1
        rw [h1] at hv
        rw [es]
        refine ⟨h2, by omega, ?_⟩
        rcases mf_c_is (P := P) (k := k) (s := s) with ⟨g1, _⟩ | ⟨g0, _⟩
        · omega
        · exact absurd (by omega) g0
      · have a1 := mf_A1 P k (s ||| 2 ^ e) r h4
        have a2 := mf_W_ge (P := P) (k := k) (s := s) he h2 h3
        have es : mf_s s c = s ||| 2 ^ e := by
          unfold mf_s
          rw [h1, if_neg (by omega), show ((e : Int)).toNat = e from by omega]
        rw [h1] at hv
        rw [es]
        refine ⟨h4, by omega, ?_⟩
        rcases mf_c_is (P := P) (k := k) (s := s) with ⟨g1, _⟩ | ⟨_, e', he', g1, g2, g3, g4, g5⟩
        · omega
        · rcases Nat.lt_or_ge e e' with q | q
          · exact absurd (by omega) (g5 e q (mf_bad h2 h3))
          · omega
    obtain ⟨hV, hvv, hle⟩ := hc
    have bR := mf_cd_b P hE k _ _ (mf_A2 P k (mf_s s (mf_c P k s).1)).1
    have br := mf_cd_b P hE k _ _ hV
    rcases Int.lt_or_eq_of_le hle with q | q
    · have m : ((mf_c P k s).1 + 1 + 1) * (13 : Int) ^ (k + (8 - mf_n P)) ≤ (c + 1) * (13 : Int) ^ (k + (8 - mf_n P)) := Int.mul_le_mul_of_nonneg_right (by omega) (by omega)
      rw [Int.add_mul ((mf_c P k s).1 + 1) 1, Int.one_mul] at m
      omega
    · have ih := mf_A3 P hE k (mf_s s c) r hV hvv
      rw [q]
      omega
