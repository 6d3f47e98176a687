-- needs 30 20.walks 21.s02
/-! the rule as code: what it answers -/
def r_upd (S : Int → Int) (i v : Int) : Int → Int := fun k => if k = i then v else S k
def r_bin (c l r : Int) : Int := if c = -11 then (if l = 0 ∧ r = 0 then 0 else 1) else if c = -12 then (if l = 0 ∨ r = 0 then 0 else 1) else if c = -13 then (if l < r then 1 else 0) else if c = -14 then (if r < l then 1 else 0) else if c = -15 then (if l = r then 1 else 0) else if c = -16 then zw (l + r) else zw (l - r)
/-- one sign of the code: a stack and its height -/
def r_step (L : Int → Int) (q : (Int → Int) × Int) (c : Int) : (Int → Int) × Int :=
  if -9 < c then (r_upd q.1 q.2 (if 0 ≤ c then c else L (-1 - c)), q.2 + 1)
  else if c = -9 then (r_upd q.1 (q.2 - 1) (if q.1 (q.2 - 1) = 0 then 1 else 0), q.2)
  else if c = -10 then (r_upd q.1 (q.2 - 1) (zw (-(q.1 (q.2 - 1)))), q.2)
  else (r_upd q.1 (q.2 - 2) (r_bin c (q.1 (q.2 - 2)) (q.1 (q.2 - 1))), q.2 - 1)
def r_go (L co S : Int → Int) : Nat → (Int → Int) × Int
  | 0 => (S, 0)
  | n + 1 => r_step L (r_go L co S n) (co n)
/-- how high the stack is behind so many signs -/
def r_dep (co : Int → Int) : Nat → Int
  | 0 => 0
  | n + 1 => if -9 < co n then r_dep co n + 1 else if -11 < co n then r_dep co n else r_dep co n - 1
def r_ok (co : Int → Int) (n : Nat) : Prop := n ≤ 40 ∧ r_dep co n = 1 ∧ ∀ i : Nat, i < n → (-17 ≤ co i ∧ co i ≤ 999) ∧ 0 ≤ r_dep co i ∧ (co i ≤ -9 → 1 ≤ r_dep co i) ∧ (co i ≤ -11 → 2 ≤ r_dep co i)
theorem r_go_dep (L co S : Int → Int) : ∀ n : Nat, (r_go L co S n).2 = r_dep co n
  | 0 => rfl
  | n + 1 => by
    have ih := r_go_dep L co S n
    simp only [r_go, r_step, r_dep]
    by_cases h1 : -9 < co n
    · rw [if_pos h1, if_pos h1, ih]
    · rw [if_neg h1, if_neg h1]
      by_cases h2 : co n = -9
      · rw [if_pos h2, if_pos (show -11 < co n by omega), ih]
      · rw [if_neg h2]
        by_cases h3 : co n = -10
        · rw [if_pos h3, if_pos (show -11 < co n by omega), ih]
        · rw [if_neg h3, if_neg (show ¬ -11 < co n by omega), ih]
theorem r_dep_le (co : Int → Int) : ∀ n : Nat, r_dep co n ≤ n
  | 0 => by simp [r_dep]
  | n + 1 => by
    have ih := r_dep_le co n
    simp only [r_dep]
    split
    · omega
    · split <;> omega
/-- what lies under the stack's top doesn't hang on what was there before -/
theorem r_same {L L' co co' S S' : Int → Int} {n : Nat} (hv : r_ok co n) (hL : ∀ k, 0 ≤ k ∧ k < 8 → L k = L' k) (hc : ∀ k : Nat, k < n → co k = co' k) : ∀ i : Nat, i ≤ n → (r_dep co i = r_dep co' i) ∧ ∀ k, 0 ≤ k ∧ k < r_dep co i → (r_go L co S i).1 k = (r_go L' co' S' i).1 k
  | 0, _ => ⟨rfl, fun k hk => by simp only [r_dep] at hk; omega⟩
  | i + 1, hi => by
    obtain ⟨d1, ih⟩ := r_same hv hL hc i (by omega)
    have w := hv.2.2 i (by omega)
    have ec := hc i (by omega)
    have g1 := r_go_dep L co S i
    have g2 := r_go_dep L' co' S' i
    have d2 : r_dep co (i + 1) = r_dep co' (i + 1) := by simp only [r_dep, ← ec, d1]
    refine ⟨d2, fun k hk => ?_⟩
    simp only [r_go, r_step, ← ec]
    simp only [r_dep] at hk
    by_cases h1 : -9 < co i
    · rw [if_pos h1] at hk
      rw [if_pos h1, if_pos h1, g1, g2, ← d1]
      simp only [r_upd]
      by_cases e : k = r_dep co i
      · rw [if_pos e, if_pos e]
        by_cases h0 : 0 ≤ co i
        · rw [if_pos h0, if_pos h0]
        · rw [if_neg h0, if_neg h0]
          exact hL _ (by omega)
      · rw [if_neg e, if_neg e]
        exact ih k (by omega)
    · rw [if_neg h1] at hk
      rw [if_neg h1, if_neg h1]
      have b1 : 1 ≤ r_dep co i := w.2.2.1 (by omega)
      have t1 := ih (r_dep co i - 1) (by omega)
      by_cases h2 : co i = -9
      · rw [if_pos (show -11 < co i by omega)] at hk
        rw [if_pos h2, if_pos h2, g1, g2, ← d1]
        simp only [r_upd]
        by_cases e : k = r_dep co i - 1
        · rw [if_pos e, if_pos e, t1]
        · rw [if_neg e, if_neg e]
          exact ih k (by omega)
      · rw [if_neg h2, if_neg h2]
        by_cases h3 : co i = -10
        · rw [if_pos (show -11 < co i by omega)] at hk
          rw [if_pos h3, if_pos h3, g1, g2, ← d1]
          simp only [r_upd]
          by_cases e : k = r_dep co i - 1
          · rw [if_pos e, if_pos e, t1]
          · rw [if_neg e, if_neg e]
            exact ih k (by omega)
        · rw [if_neg (show ¬ -11 < co i by omega)] at hk
          have b2 : 2 ≤ r_dep co i := w.2.2.2 (by omega)
          have t2 := ih (r_dep co i - 2) (by omega)
          rw [if_neg h3, if_neg h3, g1, g2, ← d1]
          simp only [r_upd]
          by_cases e : k = r_dep co i - 2
          · rw [if_pos e, if_pos e, t1, t2]
          · rw [if_neg e, if_neg e]
            exact ih k (by omega)
/-- the answer of a rule's code -/
def r_val (L co : Int → Int) (n : Nat) : Int := (r_go L co (fun _ => 0) n).1 0
theorem r_val_eq {L L' co co' S : Int → Int} {n : Nat} (hv : r_ok co n) (hL : ∀ k, 0 ≤ k ∧ k < 8 → L k = L' k) (hc : ∀ k : Nat, k < n → co k = co' k) : (r_go L co S n).1 0 = r_val L' co' n := by
  have := (r_same (S := S) (S' := fun _ => 0) hv hL hc n (Nat.le_refl _)).2 0 (by rw [hv.2.1]; omega)
  exact this
section RL
variable {g : zG} {d : Nat} {K : Option zV → zM → Prop} {μ : zM} {s : Nat} {e a b x : Int}
theorem zU_16 (μ' : zM) (i v : Int) : zU μ' 16 i v 16 = r_upd (μ' 16) i v := by
  funext k
  rw [zU_at]
  rfl
theorem zwi {x : Int} (h1 : -2147483648 ≤ x) (h2 : x ≤ 2147483647) : zw x = x := zw_id ⟨h1, h2⟩
theorem v_deed {i dp l r c : Int} {μ' : zM} (hd : 1 ≤ dp ∧ dp ≤ 41) (hc : -17 ≤ c ∧ c ≤ -11) (fin : zT g d mX6_value K 4 [some (.inr (.inr ((0, 6), 12))), some (.inl dp), some (.inl (zw (i + 1))), none, none, none] [] (zU μ' 16 (dp - 1) (r_bin c l r))) : zT g d mX6_value K 123 [some (.inr (.inr ((0, 6), 12))), some (.inl dp), some (.inl i), some (.inl c), some (.inl r), some (.inl l)] [] μ' := by
  have go : ∀ v, v = r_bin c l r → zT g d mX6_value K 4 [some (.inr (.inr ((0, 6), 12))), some (.inl dp), some (.inl (zw (i + 1))), none, none, none] [] (zU μ' 16 (dp - 1) v) := by
    rintro v rfl
    exact fin
  refine sX6_value_123 ?_
  rw [zwi (x := dp - 1) (by omega) (by omega)]
  unfold r_bin at go
  refine ⟨fun q => ⟨by omega, go _ ?_⟩, fun q => ⟨by omega, go _ ?_⟩, fun q => ⟨fun q2 => ⟨by omega, go _ ?_⟩, fun q2 => ⟨by omega, go _ ?_⟩⟩, fun q => ⟨fun q2 => ⟨by omega, go _ ?_⟩, fun q2 => ⟨by omega, go _ ?_⟩⟩, fun q => ⟨fun q2 => ⟨by omega, go _ ?_⟩, fun q2 => ⟨by omega, go _ ?_⟩⟩, fun q => ⟨fun q2 => ⟨by omega, go _ ?_⟩, fun q2 => ⟨fun q3 => ⟨by omega, go _ ?_⟩, fun q3 => ⟨by omega, go _ ?_⟩⟩⟩, fun q => ⟨fun q2 => ⟨by omega, go _ ?_⟩, fun q2 => ⟨fun q3 => ⟨by omega, go _ ?_⟩, fun q3 => ⟨by omega, go _ ?_⟩⟩⟩⟩
  all_goals (repeat' split) <;> first | rfl | omega
theorem v_rest {i dp c : Int} {μ' : zM} (hd : 1 ≤ dp ∧ dp ≤ 41) (hc : -17 ≤ c ∧ c ≤ -9) (hc2 : c ≤ -11 → 2 ≤ dp)
    (fin : ∀ k v tp, r_step (μ' 17) (μ' 16, dp) c = (r_upd (μ' 16) k v, tp) → zT g d mX6_value K 4 [some (.inr (.inr ((0, 6), 12))), some (.inl tp), some (.inl (zw (i + 1))), none, none, none] [] (zU μ' 16 k v)) :
    zT g d mX6_value K 53 [some (.inr (.inr ((0, 6), 12))), some (.inl dp), some (.inl i), some (.inl c), none, none] [] μ' := by
  refine sX6_value_53 ?_
  rw [zwi (x := dp - 1) (by omega) (by omega), zwi (x := dp + -1) (by omega) (by omega), show dp + -1 = dp - 1 from by omega, show dp - 1 - 1 = dp - 2 from by omega, zwi (x := dp - 2) (by omega) (by omega)]
  refine ⟨by omega, fun q1 => ⟨fun q2 => ⟨by omega, ?_⟩, fun q2 => ?_⟩, fun q1 => ⟨fun q2 => ?_, fun q2 => ?_⟩⟩
  · refine v_deed (by omega) (by omega) ?_
    have := fin (dp - 2) (r_bin c (μ' 16 (dp - 2)) (μ' 16 (dp - 1))) (dp - 1) (by
      simp only [r_step]
      rw [if_neg (by omega), if_neg q1, if_neg q2])
    rw [show dp - 1 - 1 = dp - 2 from by omega]
    exact this
  · exact fin (dp - 1) (zw (-(μ' 16 (dp - 1)))) dp (by
      simp only [r_step]
      rw [if_neg (by omega), if_neg q1, if_pos q2])
  · exact fin (dp - 1) 0 dp (by
      simp only [r_step]
      rw [if_neg (by omega), if_pos q1, if_neg q2])
  · exact fin (dp - 1) 1 dp (by
      simp only [r_step]
      rw [if_neg (by omega), if_pos q1, if_pos q2])
theorem v_step {i dp c : Int} {μ' : zM} (hd : 0 ≤ dp ∧ dp ≤ 40) (hc : -17 ≤ c ∧ c ≤ 999) (hc1 : c ≤ -9 → 1 ≤ dp) (hc2 : c ≤ -11 → 2 ≤ dp)
    (fin : ∀ k v tp, r_step (μ' 17) (μ' 16, dp) c = (r_upd (μ' 16) k v, tp) → zT g d mX6_value K 4 [some (.inr (.inr ((0, 6), 12))), some (.inl tp), some (.inl (zw (i + 1))), none, none, none] [] (zU μ' 16 k v)) :
    zT g d mX6_value K 19 [some (.inr (.inr ((0, 6), 12))), some (.inl dp), some (.inl i), some (.inl c), none, none] [] μ' := by
  refine sX6_value_19 ?_
  rw [zwi (x := dp + 1) (by omega) (by omega), zwi (x := -1 - c) (by omega) (by omega)]
  refine ⟨fun q1 => v_rest (by omega) (by omega) hc2 fin, fun q1 => ⟨fun q2 => ⟨by omega, by omega, ?_⟩, fun q2 => ⟨by omega, ?_⟩⟩⟩
  · exact fin dp _ (dp + 1) (by
      simp only [r_step]
      rw [if_pos (by omega), if_neg (by omega)])
  · exact fin dp _ (dp + 1) (by
      simp only [r_step]
      rw [if_pos (by omega), if_pos (by omega)])
theorem c_value_loop {jc : Nat} {n : Nat} (hj : jc = 14 ∨ jc = 15) (hc : μ 12 2 = (jc : Int)) (hn : μ 12 3 = (n : Int)) (hv : r_ok (μ jc) n) (hK : ∀ μ', (∀ j, ¬ j = 16 → μ' j = μ j) → K (some (.inl ((r_go (μ 17) (μ jc) (μ 16) n).1 0))) μ') :
    ∀ (m i : Nat) (μ' : zM), i + m = n → (∀ j, ¬ j = 16 → μ' j = μ j) → μ' 16 = (r_go (μ 17) (μ jc) (μ 16) i).1 → zT g d mX6_value K 4 [some (.inr (.inr ((0, 6), 12))), some (.inl (r_dep (μ jc) i)), some (.inl (i : Int)), none, none, none] [] μ' := by
  intro m
  induction m with
  | zero =>
    intro i μ' hi h1 h2
    obtain rfl : i = n := by omega
    have e12 : μ' 12 = μ 12 := h1 12 (by omega)
    refine sX6_value_4 ?_
    rw [e12, hn]
    refine ⟨fun _ => ?_, fun q => by omega⟩
    have := hK μ' h1
    rw [← h2] at this
    exact this
  | succ m ih =>
    intro i μ' hi h1 h2
    have e12 : μ' 12 = μ 12 := h1 12 (by omega)
    have e17 : μ' 17 = μ 17 := h1 17 (by omega)
    have ejc : μ' jc = μ jc := h1 jc (by omega)
    obtain ⟨v1, v2, v3⟩ := hv
    have i40 : (i : Int) ≤ 40 := by omega
    have i39 : 0 ≤ (i : Int) ∧ (i : Int) < 40 := by omega
    have z1 : zw ((i : Int) + 1) = (i : Int) + 1 := zwi (by omega) (by omega)
    have w := v3 i (by omega)
    have dl := r_dep_le (μ jc) i
    have hdep := r_go_dep (μ 17) (μ jc) (μ 16) i
    have fin : zT g d mX6_value K 19 [some (.inr (.inr ((0, 6), 12))), some (.inl (r_dep (μ jc) i)), some (.inl (i : Int)), some (.inl (μ' jc i)), none, none] [] μ' := by
      rw [ejc]
      refine v_step ⟨w.2.1, Int.le_trans dl i40⟩ w.1 w.2.2.1 w.2.2.2 (fun k v tp h => ?_)
      have h3 : r_go (μ 17) (μ jc) (μ 16) (i + 1) = (r_upd (μ' 16) k v, tp) := by
        rw [← h]
        simp only [r_go, e17, h2]
        rw [← hdep]
      have h4 := r_go_dep (μ 17) (μ jc) (μ 16) (i + 1)
      rw [h3] at h4
      have h5 := ih (i + 1) (zU μ' 16 k v) (by omega) (fun j hj2 => by rw [zU_off j hj2]; exact h1 j hj2) (by rw [zU_16, h3])
      rw [← h4] at h5
      rw [z1]
      exact h5
    refine sX6_value_4 ?_
    rw [e12, hn]
    refine ⟨fun q => absurd q (by clear w dl hdep fin; omega), fun q => ?_⟩
    rcases hj with rfl | rfl
    · exact Or.inl ⟨hc, i39, fin⟩
    · exact Or.inr ⟨hc, i39, fin⟩
theorem c_value {jc : Nat} {n : Nat} (hj : jc = 14 ∨ jc = 15) (hc : μ 12 2 = (jc : Int)) (hn : μ 12 3 = (n : Int)) (hv : r_ok (μ jc) n) (hK : ∀ μ', (∀ j, ¬ j = 16 → μ' j = μ j) → K (some (.inl (r_val (μ 17) (μ jc) n))) μ') : zCall g d 56 [.inr (.inr ((0, 6), 12))] μ K := by
  refine sX6_value ?_
  refine c_value_loop hj hc hn hv (fun μ' h => ?_) n 0 μ (by omega) (fun _ _ => rfl) rfl
  rw [r_val_eq hv (fun _ _ => rfl) (fun _ _ => rfl)]
  exact hK μ' h
end RL
