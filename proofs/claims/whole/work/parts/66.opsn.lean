-- needs 50 51 52 53 54 55 56 57 58 59 60 61 62 63 64 65
/-! operations: fires, men -/
def fr_nd (Y X : zM) (t : Nat) : Bool := decide (¬ X 7 (t : Int) = -1) && decide (Y 3 (X 7 (t : Int)) = -1)
def fr_end (Y X : zM) (t : Int) : Int := X 4 t - Y 11 (X 7 t)
/-- the latest of those that are left -/
def fr_l (Y X : zM) (D : Nat) : Nat → Int
  | 0 => -1
  | t + 1 => if D.testBit t = true then (if fr_l Y X D t = -1 ∨ fr_end Y X (fr_l Y X D t) ≤ fr_end Y X (t : Int) then (t : Int) else fr_l Y X D t) else fr_l Y X D t
/-- the man who is free longest -/
def fr_w (f : Int → Int) : Nat → Int
  | 0 => 0
  | j + 1 => if f (fr_w f j) < f ((j + 1 : Nat) : Int) then ((j + 1 : Nat) : Int) else fr_w f j
abbrev zFr : Type := Nat × (Int → Int) × (Int → Int) × Int
def fr_clr (D : Nat) (t : Int) : Nat := f_bits (fun i => D.testBit i && decide (¬ (i : Int) = t)) 8
def fr_step (Y X : zM) (n k : Nat) (w : Int) (q : zFr) : zFr :=
  (fr_clr q.1 (fr_l Y X q.1 n), (fun m => if m = fr_w q.2.1 (k - 1) then min (fr_end Y X (fr_l Y X q.1 n)) (q.2.1 (fr_w q.2.1 (k - 1))) - w else q.2.1 m), (fun t => if t = fr_l Y X q.1 n then min (fr_end Y X (fr_l Y X q.1 n)) (q.2.1 (fr_w q.2.1 (k - 1))) - w else q.2.2.1 t), min q.2.2.2 (min (fr_end Y X (fr_l Y X q.1 n)) (q.2.1 (fr_w q.2.1 (k - 1))) - w))
def fr_go (Y X : zM) (n k : Nat) (w : Int) : Nat → zFr → zFr
  | 0, q => q
  | j + 1, q => if q.1 = 0 then q else fr_go Y X n k w j (fr_step Y X n k w q)
def fr_D (Y X : zM) (n : Nat) : Nat := f_bits (fr_nd Y X) n
def fr_q0 (Y X : zM) (n : Nat) : zFr := (fr_D Y X n, (fun _ => 1000000000), (fun _ => -1), 1000000000)
def fr_res (Y X : zM) (k : Nat) (w : Int) : zFr := fr_go Y X (X 8 0).toNat k w (X 8 0).toNat (fr_q0 Y X (X 8 0).toNat)
def fr_ans (Y X : zM) (k : Nat) (w : Int) : Int := if fr_D Y X (X 8 0).toNat = 0 then -5000 else (fr_res Y X k w).2.2.2
def fr_row (X : zM) (b : Int → Int) : List Int := (List.range (X 8 0).toNat).map (fun t : Nat => b (t : Int))
theorem fr_w_b (f : Int → Int) : ∀ j : Nat, 0 ≤ fr_w f j ∧ fr_w f j ≤ (j : Int)
  | 0 => by simp [fr_w]
  | j + 1 => by
    have := fr_w_b f j
    simp only [fr_w]
    split <;> omega
theorem fr_l_b (Y X : zM) (D : Nat) : ∀ t : Nat, (fr_l Y X D t = -1 ∧ ∀ i, i < t → D.testBit i = false) ∨ (0 ≤ fr_l Y X D t ∧ fr_l Y X D t < (t : Int) ∧ D.testBit (fr_l Y X D t).toNat = true)
  | 0 => Or.inl ⟨rfl, fun i hi => by omega⟩
  | t + 1 => by
    have ih := fr_l_b Y X D t
    simp only [fr_l]
    by_cases q : D.testBit t = true
    · rw [if_pos q]
      split
      · exact Or.inr ⟨by omega, by omega, by rw [show ((t : Int)).toNat = t from by omega]; exact q⟩
      · rename_i q2
        rcases ih with ⟨h1, _⟩ | ⟨h1, h2, h3⟩
        · exact absurd (Or.inl h1) q2
        · exact Or.inr ⟨h1, by omega, h3⟩
    · rw [if_neg q]
      rcases ih with ⟨h1, h2⟩ | ⟨h1, h2, h3⟩
      · refine Or.inl ⟨h1, fun i hi => ?_⟩
        by_cases q3 : i = t
        · subst q3; simpa using q
        · exact h2 i (by omega)
      · exact Or.inr ⟨h1, by omega, h3⟩
theorem fr_clr_t (D : Nat) (t : Int) (i : Nat) : (fr_clr D t).testBit i = (decide (i < 8) && (D.testBit i && decide (¬ (i : Int) = t))) := f_bits_test _ 8 i
def fr_c (D : Nat) : Nat → Nat
  | 0 => 0
  | t + 1 => fr_c D t + if D.testBit t = true then 1 else 0
theorem fr_c_0 (D : Nat) : ∀ n : Nat, fr_c D n = 0 → ∀ i, i < n → D.testBit i = false
  | 0, _, i, hi => by omega
  | n + 1, h, i, hi => by
    simp only [fr_c] at h
    by_cases q : D.testBit n = true
    · rw [if_pos q] at h; omega
    · rw [if_neg q] at h
      by_cases q3 : i = n
      · subst q3; simpa using q
      · exact fr_c_0 D n (by omega) i (by omega)
theorem fr_c_le (D : Nat) : ∀ n : Nat, fr_c D n ≤ n
  | 0 => by simp [fr_c]
  | n + 1 => by
    have := fr_c_le D n
    simp only [fr_c]
    split <;> omega
theorem fr_c_clr (D : Nat) (t : Nat) : ∀ n : Nat, n ≤ 8 → fr_c (fr_clr D (t : Int)) n + (if t < n ∧ D.testBit t = true then 1 else 0) = fr_c D n
  | 0, _ => by simp [fr_c]
  | n + 1, h => by
    have ih := fr_c_clr D t n (by omega)
    simp only [fr_c]
    rw [fr_clr_t, decide_eq_true (show n < 8 by omega), Bool.true_and]
    by_cases q : n = t
    · subst q
      rw [if_neg (fun hh : n < n ∧ _ => absurd hh.1 (by omega))] at ih
      by_cases q2 : D.testBit n = true
      · simp [q2]; omega
      · simp [q2]; omega
    · have e1 : (decide (¬ (n : Int) = (t : Int))) = true := by simp; omega
      rw [e1, Bool.and_true]
      by_cases q2 : D.testBit t = true
      · by_cases q3 : t < n
        · rw [if_pos ⟨q3, q2⟩] at ih
          rw [if_pos (show t < n + 1 ∧ D.testBit t = true from ⟨by omega, q2⟩)]
          omega
        · rw [if_neg (fun hh => q3 hh.1)] at ih
          rw [if_neg (show ¬ (t < n + 1 ∧ D.testBit t = true) from fun hh => q3 (by omega))]
          omega
      · rw [if_neg (fun hh => q2 hh.2)] at ih
        rw [if_neg (show ¬ (t < n + 1 ∧ D.testBit t = true) from fun hh => q2 hh.2)]
        omega
/-- what holds of the men and the fires on the way -/
def fr_ok (n : Nat) (j : Nat) (q : zFr) : Prop := q.1 < 256 ∧ (∀ i, n ≤ i → q.1.testBit i = false) ∧ (∀ m, -1560 + 120 * (j : Int) ≤ q.2.1 m ∧ q.2.1 m ≤ 1000000000)
section
variable {g : zG} {d : Nat} {K : Option zV → zM → Prop} {μ μ' Y X N : zM} {s m i n k j : Nat} {r : List Int} {S : zS} {co : Int → Int} {cn nn x y z b v e p t f st w : Int} {q : zFr}
theorem fr_ok_step (hn : n ≤ 8) (hj : j ≤ 7) (hw : 1 ≤ w ∧ w ≤ 120) (he : ∀ t, 0 ≤ t ∧ t < (n : Int) → q.1.testBit t.toNat = true → -600 ≤ fr_end Y X t ∧ fr_end Y X t ≤ 2000) (hD : ¬ q.1 = 0) (h : fr_ok n (j + 1) q) : fr_ok n j (fr_step Y X n k w q) ∧ (0 ≤ fr_l Y X q.1 n ∧ fr_l Y X q.1 n < (n : Int)) ∧ q.1.testBit (fr_l Y X q.1 n).toNat = true := by
  obtain ⟨h1, h2, h3⟩ := h
  have lb : 0 ≤ fr_l Y X q.1 n ∧ fr_l Y X q.1 n < (n : Int) ∧ q.1.testBit (fr_l Y X q.1 n).toNat = true := by
    rcases fr_l_b Y X q.1 n with ⟨_, a⟩ | a
    · exfalso; apply hD
      apply Nat.eq_of_testBit_eq
      intro i
      rw [Nat.zero_testBit]
      by_cases q5 : i < n
      · exact a i q5
      · exact h2 i (by omega)
    · exact a
  have eb := he _ ⟨lb.1, lb.2.1⟩ lb.2.2
  have fb := h3 (fr_w q.2.1 (k - 1))
  refine ⟨⟨?_, fun i hi => ?_, fun m => ?_⟩, ⟨lb.1, lb.2.1⟩, lb.2.2⟩
  · exact f_bits_lt _ 8
  · show (fr_clr q.1 (fr_l Y X q.1 n)).testBit i = false
    rw [fr_clr_t, h2 i hi]; simp
  · show -1560 + 120 * (j : Int) ≤ (if m = fr_w q.2.1 (k - 1) then _ else q.2.1 m) ∧ (if m = fr_w q.2.1 (k - 1) then _ else q.2.1 m) ≤ 1000000000
    have := h3 m
    split <;> omega
theorem c_litBy (hW : y_W (vC μ 20)) (hN : cN μ X) (hi : iN (vC μ 20) X) (ht : 0 ≤ t ∧ t < X 8 0) (hp : ¬ X 7 t = -1) (h : K (some (.inl (fr_end (vC μ 20) X t))) μ) : zCall g d 78 [.inr (.inr ((0, 8), 78)), .inl t] μ K := by
  have w1 := w_env hW
  have i8 := hi.1
  have ix := hi.2.1 t ht
  have e133 : vC μ 20 13 3 = μ 5 0 := by simp only [vC]; rfl
  have e7 := hN.2.2.1 t (by omega)
  have we := (w_en hW (e := X 7 t) (by omega)).1
  have e11 : vC μ 20 11 (X 7 t) = μ 8 (X 7 t) := y_in (by omega)
  refine sX8_litBy ⟨by omega, by omega, ?_⟩
  rw [e7, (hN.2.1 t ht).1, zwi (x := X 4 t - μ 8 (X 7 t)) (by omega) (by omega)]
  unfold fr_end at h
  rw [e11] at h
  exact h
theorem m_endOf (hW : y_W (vM μ co cn)) (hN : mN μ X) (hi : iN (vM μ co cn) X) (ht : 0 ≤ t ∧ t < X 8 0) (hp : ¬ X 7 t = -1) (h : K (some (.inl (fr_end (vM μ co cn) X t))) μ) : zCall g d 267 [.inr (.inr ((0, 12), 119)), .inl t] μ K := by
  have w1 := v_env hW
  have i8 := hi.1
  have ix := hi.2.1 t ht
  have e133 : vM μ co cn 13 3 = μ 119 6 := by simp only [vM]; rfl
  have e7 := (hN.2 t ht).2.2.2
  have we := (v_en hW (e := X 7 t) (by omega)).1
  have e11 : vM μ co cn 11 (X 7 t) = μ 127 (X 7 t) := y_in (by omega)
  refine sX12_endOf ⟨by omega, by omega, ?_⟩
  rw [e7, (hN.2 t ht).1, zwi (x := X 4 t - μ 127 (X 7 t)) (by omega) (by omega)]
  unfold fr_end at h
  rw [e11] at h
  exact h
theorem fr_end_b (hW : y_W Y) (hi : iN Y X) (ht : 0 ≤ t ∧ t < X 8 0) (hp : ¬ X 7 t = -1) : -600 ≤ fr_end Y X t ∧ fr_end Y X t ≤ 2000 := by
  have ix := hi.2.1 t ht
  have w := hW.1
  have := (hW.2.2.2 (X 7 t) (by omega)).1
  unfold fr_end
  omega
/-- those whose fires are wanting -/
def fr_sub (Y X : zM) (D : Nat) : Prop := ∀ i, D.testBit i = true → (i : Int) < X 8 0 ∧ fr_nd Y X i = true
theorem c_latestOf {D : Nat} (hd : 1 ≤ d) (hW : y_W (vC μ 20)) (hN : cN μ X) (hi : iN (vC μ 20) X) (hD : D < 256) (hs : fr_sub (vC μ 20) X D) (h : K (some (.inl (fr_l (vC μ 20) X D (X 8 0).toNat))) μ) : zCall g d 79 [.inr (.inr ((0, 8), 78)), .inl (D : Int)] μ K := by
  have i8 := hi.1
  have n1 := hN.1
  refine sX8_latestOf ?_
  obtain ⟨F, hF⟩ : ∃ F, fr_l (vC μ 20) X D = F := ⟨_, rfl⟩
  have F0 : F 0 = -1 := by rw [← hF]; rfl
  have Fs : ∀ t : Nat, F (t + 1) = if D.testBit t = true then (if F t = -1 ∨ fr_end (vC μ 20) X (F t) ≤ fr_end (vC μ 20) X (t : Int) then (t : Int) else F t) else F t := by intro t; rw [← hF]; rfl
  have Fb : ∀ t : Nat, F t = -1 ∨ (0 ≤ F t ∧ F t < (t : Int) ∧ D.testBit (F t).toNat = true) := by
    intro t
    rw [← hF]
    rcases fr_l_b (vC μ 20) X D t with ⟨a, _⟩ | a
    · exact Or.inl a
    · exact Or.inr a
  rw [hF] at h
  clear hF
  have np : ∀ i : Nat, D.testBit i = true → ¬ X 7 (i : Int) = -1 := by
    intro i hb
    have := (hs i hb).2
    unfold fr_nd at this
    simp at this
    exact this.1
  have lp : ∀ (a j : Nat), (j : Int) + a = X 8 0 → zT g d mX8_latestOf K 4 [some (.inr (.inr ((0, 8), 78))), some (.inl (D : Int)), some (.inl (F j)), some (.inl (j : Int))] [] μ := by
    intro a
    induction a with
    | zero =>
      intro j hj
      obtain rfl : j = (X 8 0).toNat := by omega
      exact sX8_latestOf_4 ⟨fun _ => h, fun q => by omega⟩
    | succ a ih =>
      intro j hj
      have nx := ih (j + 1) (by omega)
      rw [Fs j] at nx
      have fb := Fb j
      have tb := z_tst0 (m := D) (e := (j : Int)) (by omega) (by omega)
      rw [show ((j : Int)).toNat = j from by omega] at tb
      refine sX8_latestOf_4 ⟨fun q => by omega, fun q => ⟨fun q2 => ?_, fun q2 => ?_⟩⟩
      · rw [if_neg (by rw [tb.1 q2]; simp)] at nx
        rw [zw_suc (by omega)]; exact nx
      · have q3 : D.testBit j = true := by
          cases hb : D.testBit j
          · exact absurd (tb.2 hb) q2
          · rfl
        rw [if_pos q3] at nx
        refine ⟨fun q4 => ?_, fun q4 => ⟨by omega, c_litBy hW hN hi (by omega) (np j q3) (zi (c_litBy hW hN hi ?_ ?_ (zi ⟨fun q5 => ?_, fun q5 => ?_⟩)))⟩⟩
        · rw [if_pos (Or.inl q4)] at nx
          rw [zw_suc (by omega)]; exact nx
        · omega
        · have f3 := fb.resolve_left q4
          have := np _ f3.2.2
          rw [show (((F j).toNat : Nat) : Int) = F j from by omega] at this
          exact this
        · rw [if_neg (by omega)] at nx
          rw [zw_suc (by omega)]; exact nx
        · rw [if_pos (Or.inr q5)] at nx
          rw [zw_suc (by omega)]; exact nx
  have := lp (X 8 0).toNat 0 (by omega)
  rw [F0] at this
  exact this
end
