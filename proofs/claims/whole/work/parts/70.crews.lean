-- needs 69
/-! crews: who can have which trains, as numbers -/
def cr_two (X : zM) (rest duty a b : Int) : Bool := if X 4 a ≤ X 4 b then decide (rest ≤ X 4 b - X 4 a - X 6 a) && decide (X 4 b + X 6 b - X 4 a ≤ duty) else decide (rest ≤ X 4 a - X 4 b - X 6 b) && decide (X 4 a + X 6 a - X 4 b ≤ duty)
theorem cr_two_c {X : zM} {rest duty a b : Int} (hr : 0 ≤ rest) (ha : 1 ≤ X 6 a) (hb : 1 ≤ X 6 b) : cr_two X rest duty a b = cr_two X rest duty b a := by
  unfold cr_two
  by_cases h1 : X 4 a ≤ X 4 b
  · by_cases h2 : X 4 b ≤ X 4 a
    · rw [if_pos h1, if_pos h2, decide_eq_false (show ¬ rest ≤ X 4 b - X 4 a - X 6 a by omega), decide_eq_false (show ¬ rest ≤ X 4 a - X 4 b - X 6 b by omega)]
      rfl
    · rw [if_pos h1, if_neg h2]
  · rw [if_neg h1, if_pos (by omega)]
/-- whether a man may have a train besides those that he has -/
def cr_ok (X : zM) (rest duty : Int) (f : Int → Int) (t : Nat) (m : Int) : Nat → Bool
  | 0 => true
  | o + 1 => cr_ok X rest duty f t m o && (decide (¬ f (o : Int) = m) || cr_two X rest duty (o : Int) (t : Int))
def cr_up (f : Int → Int) (t : Nat) (m : Int) : Int → Int := fun x => if x = (t : Int) then m else f x
def cr_lp (try_ : Int → Option (Int → Int)) : Nat → Int → Option (Int → Int)
  | 0, _ => none
  | c + 1, m => match try_ m with
    | some r => some r
    | none => cr_lp try_ c (m + 1)
def cr_go (X : zM) (rest duty men : Int) : Nat → Nat → Int → (Int → Int) → Option (Int → Int)
  | 0, _, _, f => some f
  | a + 1, t, used, f => cr_lp (fun m => if (decide (X 6 (t : Int) ≤ duty) && cr_ok X rest duty f t m t) = true then cr_go X rest duty men a (t + 1) (max used (m + 1)) (cr_up f t m) else none) (min (used + 1) men).toNat 0
def cr_m (X : zM) (rest duty : Int) (n : Nat) : Nat → Nat → Option (Nat × (Int → Int))
  | 0, _ => none
  | j + 1, m => match cr_go X rest duty (m : Int) n 0 0 (fun _ => 0) with
    | some r => some (m, r)
    | none => cr_m X rest duty n j (m + 1)
theorem cr_lp_some {T : Int → Option (Int → Int)} : ∀ (c : Nat) (m : Int) (k : Nat), k < c → (∃ r, T (m + k) = some r) → ∃ r, cr_lp T c m = some r
  | 0, m, k, hk, _ => by omega
  | c + 1, m, k, hk, h => by
    simp only [cr_lp]
    cases hT : T m with
    | some r => exact ⟨r, rfl⟩
    | none =>
      simp only []
      cases k with
      | zero =>
        obtain ⟨r, hr⟩ := h
        rw [show m + ((0 : Nat) : Int) = m from by omega, hT] at hr
        cases hr
      | succ k =>
        refine cr_lp_some c (m + 1) k (by omega) ?_
        obtain ⟨r, hr⟩ := h
        exact ⟨r, by rw [show m + 1 + (k : Int) = m + ((k + 1 : Nat) : Int) from by omega]; exact hr⟩
theorem cr_lp_none {T : Int → Option (Int → Int)} : ∀ (c : Nat) (m : Int), (∀ x, T x = none) → cr_lp T c m = none
  | 0, m, _ => rfl
  | c + 1, m, h => by
    simp only [cr_lp]
    rw [h m]
    exact cr_lp_none c (m + 1) h
theorem cr_ok_fresh {X : zM} {rest duty : Int} {f : Int → Int} {t : Nat} {m : Int} : ∀ o : Nat, (∀ i : Nat, i < o → ¬ f (i : Int) = m) → cr_ok X rest duty f t m o = true
  | 0, _ => rfl
  | o + 1, h => by
    simp only [cr_ok]
    rw [cr_ok_fresh o (fun i hi => h i (by omega)), decide_eq_true (h o (by omega))]
    rfl
/-- with a man for each train it goes -/
theorem cr_go_full {X : zM} {rest duty men : Int} : ∀ (a t : Nat) (used : Int) (f : Int → Int), 0 ≤ used → used + a ≤ men → (∀ i : Nat, t ≤ i → i < t + a → X 6 (i : Int) ≤ duty) → (∀ i : Nat, i < t → f (i : Int) < used) → ∃ r, cr_go X rest duty men a t used f = some r
  | 0, t, used, f, _, _, _, _ => ⟨f, rfl⟩
  | a + 1, t, used, f, h0, h1, h2, h3 => by
    simp only [cr_go]
    refine cr_lp_some _ 0 used.toNat (by omega) ?_
    rw [show (0 : Int) + (used.toNat : Int) = used from by omega]
    have hk := cr_ok_fresh (X := X) (rest := rest) (duty := duty) (f := f) (t := t) (m := used) t (fun i hi => by have := h3 i hi; omega)
    rw [hk, decide_eq_true (h2 t (by omega) (by omega))]
    refine cr_go_full a (t + 1) (max used (used + 1)) (cr_up f t used) (by omega) (by omega) (fun i hi hi2 => h2 i (by omega) (by omega)) (fun i hi => ?_)
    unfold cr_up
    split
    · omega
    · have := h3 i (by omega)
      omega
/-- one that is away too long is nobody's -/
theorem cr_go_bad {X : zM} {rest duty men : Int} : ∀ (a t : Nat) (used : Int) (f : Int → Int), (∃ i : Nat, t ≤ i ∧ i < t + a ∧ duty < X 6 (i : Int)) → cr_go X rest duty men a t used f = none
  | 0, t, used, f, ⟨i, h1, h2, _⟩ => by omega
  | a + 1, t, used, f, ⟨i, h1, h2, h3⟩ => by
    simp only [cr_go]
    refine cr_lp_none _ 0 (fun x => ?_)
    by_cases q : i = t
    · subst q
      rw [decide_eq_false (by omega)]
      rfl
    · split
      · exact cr_go_bad a (t + 1) _ _ ⟨i, by omega, by omega, h3⟩
      · rfl
theorem cr_m_bad {X : zM} {rest duty : Int} {n : Nat} (h : ∃ i : Nat, i < n ∧ duty < X 6 (i : Int)) : ∀ (j m : Nat), cr_m X rest duty n j m = none
  | 0, m => rfl
  | j + 1, m => by
    obtain ⟨i, h1, h2⟩ := h
    simp only [cr_m]
    rw [cr_go_bad n 0 0 _ ⟨i, by omega, by omega, h2⟩]
    exact cr_m_bad ⟨i, h1, h2⟩ j (m + 1)
def o_crews (S : zS) (rest duty : Int) : Int × zS := if (0 ≤ rest ∧ rest ≤ 600) ∧ 1 ≤ duty ∧ duty ≤ 2000 then (match cr_m (zX S) rest duty (zX S 8 0).toNat ((zX S 8 0).toNat + 1) 0 with
    | some q => ((q.1 : Int), sR S (fr_row (zX S) q.2))
    | none => (-2, S)) else (-1, S)
section
variable {g : zG} {d : Nat} {K : Option zV → zM → Prop} {μ μ' Y X N : zM} {s m i n k j : Nat} {r : List Int} {S : zS} {co : Int → Int} {cn nn x y z b v e p t f st w rest duty : Int}
theorem c_canShare {a b : Int} (hN : cN μ X) (hi : iN Y X) (ha : 0 ≤ a ∧ a < X 8 0) (hb : 0 ≤ b ∧ b < X 8 0) (hab : ¬ a = b) (hr : 0 ≤ rest ∧ rest ≤ 600) (hdu : 1 ≤ duty ∧ duty ≤ 2000) (h1 : cr_two X rest duty a b = true → K (some (.inl 1)) μ) (h0 : cr_two X rest duty a b = false → K (some (.inl 0)) μ) : zCall g d 75 [.inr (.inr ((0, 8), 78)), .inl a, .inl b, .inl rest, .inl duty] μ K := by
  have i8 := hi.1
  have xa := (hi.2.1 a ha).1
  have xb := (hi.2.1 b hb).1
  have ca := hN.2.1 a ha
  have cb := hN.2.1 b hb
  unfold cr_two at h1 h0
  refine sX8_canShare ⟨by omega, by omega, ?_⟩
  rw [ca.1, cb.1]
  refine ⟨fun q => sX8_canShare_20 ⟨fun q2 => ⟨by omega, by omega, ?_⟩, fun q2 => absurd q2.symm hab⟩, fun q => sX8_canShare_20 ⟨fun q2 => absurd rfl q2, fun q2 => ⟨by omega, by omega, ?_⟩⟩⟩
  · rw [if_neg (by omega)] at h1 h0
    rw [ca.1, cb.1, ca.2.2, cb.2.2, zwi (x := X 4 b + X 6 b) (by omega) (by omega), zwi (x := X 4 b + X 6 b + rest) (by omega) (by omega), zwi (x := X 4 a + X 6 a) (by omega) (by omega), zwi (x := X 4 a + X 6 a - X 4 b) (by omega) (by omega)]
    refine ⟨fun q3 => h0 (by rw [decide_eq_false (show ¬ rest ≤ X 4 a - X 4 b - X 6 b by omega)]; rfl), fun q3 => ⟨fun q4 => h0 (by rw [decide_eq_false (show ¬ X 4 a + X 6 a - X 4 b ≤ duty by omega), Bool.and_false]), fun q4 => h1 (by rw [decide_eq_true (show rest ≤ X 4 a - X 4 b - X 6 b by omega), decide_eq_true q4]; rfl)⟩⟩
  · rw [if_pos q] at h1 h0
    rw [ca.1, cb.1, ca.2.2, cb.2.2, zwi (x := X 4 a + X 6 a) (by omega) (by omega), zwi (x := X 4 a + X 6 a + rest) (by omega) (by omega), zwi (x := X 4 b + X 6 b) (by omega) (by omega), zwi (x := X 4 b + X 6 b - X 4 a) (by omega) (by omega)]
    refine ⟨fun q3 => h0 (by rw [decide_eq_false (show ¬ rest ≤ X 4 b - X 4 a - X 6 a by omega)]; rfl), fun q3 => ⟨fun q4 => h0 (by rw [decide_eq_false (show ¬ X 4 b + X 6 b - X 4 a ≤ duty by omega), Bool.and_false]), fun q4 => h1 (by rw [decide_eq_true (show rest ≤ X 4 b - X 4 a - X 6 a by omega), decide_eq_true q4]; rfl)⟩⟩
theorem m_areOnes {a b : Int} (hN : mN μ X) (hi : iN Y X) (ha : 0 ≤ a ∧ a < X 8 0) (hb : 0 ≤ b ∧ b < X 8 0) (hab : ¬ a = b) (hr : 0 ≤ rest ∧ rest ≤ 600) (hdu : 1 ≤ duty ∧ duty ≤ 2000) (h1 : cr_two X rest duty a b = true → K (some (.inl 1)) μ) (h0 : cr_two X rest duty a b = false → K (some (.inl 0)) μ) : zCall g d 263 [.inr (.inr ((0, 12), 119)), .inl a, .inl b, .inl rest, .inl duty] μ K := by
  have i8 := hi.1
  have xa := (hi.2.1 a ha).1
  have xb := (hi.2.1 b hb).1
  have ca := hN.2 a ha
  have cb := hN.2 b hb
  unfold cr_two at h1 h0
  refine sX12_areOnes ⟨by omega, by omega, ?_⟩
  rw [ca.1, cb.1]
  refine ⟨fun q => sX12_areOnes_20 ⟨fun q2 => ⟨by omega, by omega, ?_⟩, fun q2 => absurd q2.symm hab⟩, fun q => sX12_areOnes_20 ⟨fun q2 => absurd rfl q2, fun q2 => ⟨by omega, by omega, ?_⟩⟩⟩
  · rw [if_neg (by omega)] at h1 h0
    rw [ca.1, cb.1, ca.2.2.1, cb.2.2.1, zwi (x := X 4 a - X 4 b) (by omega) (by omega), zwi (x := X 4 a - X 4 b - X 6 b) (by omega) (by omega), zwi (x := X 4 a + X 6 a) (by omega) (by omega), zwi (x := X 4 a + X 6 a - X 4 b) (by omega) (by omega)]
    refine ⟨fun q3 => h0 (by rw [decide_eq_false (show ¬ rest ≤ X 4 a - X 4 b - X 6 b by omega)]; rfl), fun q3 => ⟨fun q4 => h0 (by rw [decide_eq_false (show ¬ X 4 a + X 6 a - X 4 b ≤ duty by omega), Bool.and_false]), fun q4 => h1 (by rw [decide_eq_true (show rest ≤ X 4 a - X 4 b - X 6 b by omega), decide_eq_true q4]; rfl)⟩⟩
  · rw [if_pos q] at h1 h0
    rw [ca.1, cb.1, ca.2.2.1, cb.2.2.1, zwi (x := X 4 b - X 4 a) (by omega) (by omega), zwi (x := X 4 b - X 4 a - X 6 a) (by omega) (by omega), zwi (x := X 4 b + X 6 b) (by omega) (by omega), zwi (x := X 4 b + X 6 b - X 4 a) (by omega) (by omega)]
    refine ⟨fun q3 => h0 (by rw [decide_eq_false (show ¬ rest ≤ X 4 b - X 4 a - X 6 a by omega)]; rfl), fun q3 => ⟨fun q4 => h0 (by rw [decide_eq_false (show ¬ X 4 b + X 6 b - X 4 a ≤ duty by omega), Bool.and_false]), fun q4 => h1 (by rw [decide_eq_true (show rest ≤ X 4 b - X 4 a - X 6 a by omega), decide_eq_true q4]; rfl)⟩⟩
end
