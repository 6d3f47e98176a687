-- needs bb
/-! the first state -/
def kY0 : zM := vC (kmu kE3) 20
def kX0 : zM := fun k i => match k with
  | 0 => kmu kE3 71 i
  | 1 => kmu kE3 72 i
  | 2 => kmu kE3 10 i
  | 3 => kmu kE3 11 i
  | 7 => -1
  | 9 => -1
  | _ => 0
theorem ki_all {n : Nat} {P : Int → Prop} (h : ∀ k : Nat, k < n → P (k : Int)) : ∀ i : Int, 0 ≤ i ∧ i < (n : Int) → P i := fun i hi => by
  have := h i.toNat (by omega)
  rw [show ((i.toNat : Nat) : Int) = i from by omega] at this
  exact this
theorem ky_cl {n : Nat} {f f' : Int → Int} (h : ∀ k : Nat, k < n → f (k : Int) = f' (k : Int)) (i : Int) : y_cl (n : Int) f i = y_cl (n : Int) f' i := by
  by_cases hi : 0 ≤ i ∧ i < (n : Int)
  · rw [y_in hi, y_in hi]
    exact ki_all (P := fun i => f i = f' i) h i hi
  · unfold y_cl
    rw [if_neg hi, if_neg hi]
theorem ky_no {n : Nat} {f : Int → Int} (h : ∀ k : Nat, k < n → f (k : Int) = -1) (i : Int) : y_cl (n : Int) f i = -1 := by
  by_cases hi : 0 ≤ i ∧ i < (n : Int)
  · rw [y_in hi]
    exact ki_all (P := fun i => f i = -1) h i hi
  · unfold y_cl
    rw [if_neg hi]
theorem ky_0 {f : Int → Int} (i : Int) : y_cl 0 f i = -1 := by
  unfold y_cl
  rw [if_neg (by omega)]
set_option maxRecDepth 100000 in
theorem kn_a : (∀ k : Nat, k < 23 → kmu kE3 123 k = kmu kE3 21 k ∧ kmu kE3 124 k = kmu kE3 22 k ∧ kmu kE3 120 k = kmu kE3 2 k ∧ kmu kE3 121 k = kmu kE3 3 k ∧ kmu kE3 122 k = kmu kE3 4 k) ∧ (∀ k : Nat, k < 12 → kmu kE3 23 k = -1 ∧ kmu kE3 24 k = -1 ∧ kmu kE3 129 k = zand (zshr (kmu kE3 20 2) k) 1 ∧ kmu kE3 125 k = kmu kE3 6 k ∧ kmu kE3 126 k = kmu kE3 7 k ∧ kmu kE3 127 k = kmu kE3 8 k ∧ kmu kE3 128 k = kmu kE3 9 k ∧ kmu kE3 64 k = -1) ∧ (∀ k : Nat, k < 8 → kmu kE3 82 k = -1) ∧ (∀ k : Nat, k < 3 → kmu kE3 103 k = -1 ∧ kmu kE3 167 k = 0 ∧ kmu kE3 155 k = 0 ∧ kmu kE3 151 k = kmu kE3 71 k ∧ kmu kE3 152 k = kmu kE3 72 k) ∧ ∀ k : Nat, k < 12 → kmu kE3 153 k = kmu kE3 10 k ∧ kmu kE3 154 k = kmu kE3 11 k := by decide +kernel
set_option maxRecDepth 100000 in
theorem kn_b : kmu kE3 12 1 = 0 ∧ kmu kE3 12 2 = 14 ∧ kmu kE3 12 3 = 0 ∧ kmu kE3 12 4 = 15 ∧ kmu kE3 18 1 = 0 ∧ kmu kE3 62 4 = 0 ∧ kmu kE3 62 6 = 0 ∧ kmu kE3 78 3 = 0 ∧ kmu kE3 0 13 = 0 ∧ kmu kE3 20 2 = 0 ∧ kmu kE3 119 30 = 0 ∧ kmu kE3 119 32 = 0 ∧ kmu kE3 119 23 = 0 ∧ kmu kE3 119 25 = 0 ∧ kmu kE3 119 18 = 0 ∧ kmu kE3 119 74 = 0 ∧ kmu kE3 119 28 = 0 ∧ kmu kE3 119 42 = 0 ∧ kmu kE3 119 6 = 0 ∧ kmu kE3 5 0 = 0 := by decide +kernel
set_option maxRecDepth 100000 in
theorem kn_c : kmu kE3 119 14 = kmu kE3 20 0 ∧ kmu kE3 119 15 = kmu kE3 20 1 ∧ kmu kE3 119 0 = kmu kE3 1 0 ∧ kmu kE3 119 16 = kmu kE3 1 1 ∧ kmu kE3 119 17 = kmu kE3 1 2 ∧ kmu kE3 20 1 = 0 ∧ z_dd (fun e => y_cl 12 (fun e => zand (zshr (kmu kE3 20 2) e) 1) e) = 0 := by decide +kernel
set_option maxRecDepth 100000 in
theorem kn_w : (4 ≤ kY0 13 0 ∧ kY0 13 0 ≤ 23 ∧ 1 ≤ kY0 13 1 ∧ kY0 13 1 ≤ 9 ∧ 0 ≤ kY0 13 2 ∧ kY0 13 2 ≤ 9 ∧ 0 ≤ kY0 13 3 ∧ kY0 13 3 ≤ 12) ∧ (0 ≤ kY0 5 0 ∧ kY0 5 0 ≤ kY0 13 0 ∧ 0 ≤ kY0 5 1 ∧ kY0 5 1 ≤ 400000) := by decide +kernel
set_option maxRecDepth 100000 in
theorem kn_s : ∀ k : Nat, k < 23 → (10 ≤ kY0 6 k ∧ kY0 6 k ≤ 60 ∧ 0 ≤ kY0 7 k ∧ kY0 7 k ≤ 3 ∧ (kY0 8 k = 0 ∨ kY0 8 k = 1)) ∧ (-1 ≤ kY0 0 k ∧ kY0 0 k < kY0 13 3 ∧ -1 ≤ kY0 1 k ∧ kY0 1 k < kY0 13 3) ∧ (¬ kY0 0 k = -1 → kY0 2 (kY0 0 k) = k) ∧ (¬ kY0 1 k = -1 → kY0 2 (kY0 1 k) = k ∧ ¬ kY0 0 k = -1 ∧ ¬ kY0 0 k = kY0 1 k) := by decide +kernel
set_option maxRecDepth 100000 in
theorem kn_e : ∀ k : Nat, k < 12 → (0 ≤ kY0 9 k ∧ kY0 9 k ≤ 30 ∧ 0 ≤ kY0 10 k ∧ kY0 10 k ≤ 5 ∧ 0 ≤ kY0 11 k ∧ kY0 11 k ≤ 600 ∧ (kY0 12 k = 0 ∨ kY0 12 k = 1) ∧ (kY0 4 k = 0 ∨ kY0 4 k = 1)) ∧ (-1 ≤ kY0 2 k ∧ kY0 2 k < kY0 13 0 ∧ -1 ≤ kY0 3 k ∧ kY0 3 k ≤ kY0 5 1) ∧ (¬ kY0 2 k = -1 → kY0 0 (kY0 2 k) = k ∨ kY0 1 (kY0 2 k) = k) ∧ (kY0 13 3 ≤ k → kY0 2 k = -1 ∧ kY0 3 k = -1 ∧ kY0 4 k = 0) := by decide +kernel
set_option maxRecDepth 100000 in
theorem kn_o : (∀ k : Nat, k < 3 → 0 ≤ kmu kE3 71 k ∧ kmu kE3 71 k ≤ 999 ∧ 0 ≤ kmu kE3 72 k ∧ kmu kE3 72 k ≤ 999) ∧ ∀ k : Nat, k < 12 → 0 ≤ kmu kE3 10 k ∧ kmu kE3 10 k ≤ 40 ∧ 0 ≤ kmu kE3 11 k ∧ kmu kE3 11 k ≤ 2 := by decide +kernel
theorem kW0 : y_W kY0 := ⟨kn_w.1, kn_w.2, ki_all (n := 23) (P := fun s => (10 ≤ kY0 6 s ∧ kY0 6 s ≤ 60 ∧ 0 ≤ kY0 7 s ∧ kY0 7 s ≤ 3 ∧ (kY0 8 s = 0 ∨ kY0 8 s = 1)) ∧ (-1 ≤ kY0 0 s ∧ kY0 0 s < kY0 13 3 ∧ -1 ≤ kY0 1 s ∧ kY0 1 s < kY0 13 3) ∧ (¬ kY0 0 s = -1 → kY0 2 (kY0 0 s) = s) ∧ (¬ kY0 1 s = -1 → kY0 2 (kY0 1 s) = s ∧ ¬ kY0 0 s = -1 ∧ ¬ kY0 0 s = kY0 1 s)) kn_s, ki_all (n := 12) (P := fun e => (0 ≤ kY0 9 e ∧ kY0 9 e ≤ 30 ∧ 0 ≤ kY0 10 e ∧ kY0 10 e ≤ 5 ∧ 0 ≤ kY0 11 e ∧ kY0 11 e ≤ 600 ∧ (kY0 12 e = 0 ∨ kY0 12 e = 1) ∧ (kY0 4 e = 0 ∨ kY0 4 e = 1)) ∧ (-1 ≤ kY0 2 e ∧ kY0 2 e < kY0 13 0 ∧ -1 ≤ kY0 3 e ∧ kY0 3 e ≤ kY0 5 1) ∧ (¬ kY0 2 e = -1 → kY0 0 (kY0 2 e) = e ∨ kY0 1 (kY0 2 e) = e) ∧ (kY0 13 3 ≤ e → kY0 2 e = -1 ∧ kY0 3 e = -1 ∧ kY0 4 e = 0)) kn_e⟩
theorem kV0 : vM (kmu kE3) (kY0 14) (kY0 15 0) = kY0 := by
  obtain ⟨a1, a2, a3, a4, a5⟩ := kn_a
  obtain ⟨b1, b2, b3, b4, b5, b6, b7, b8, b9, b10, b11, b12, b13, b14, b15, b16, b17, b18, b19, b20⟩ := kn_b
  obtain ⟨c1, c2, c3, c4, c5, c6, c7⟩ := kn_c
  have e15 : kY0 15 0 = 0 := b3
  funext k i
  match k with
  | 0 => exact ky_cl (n := 23) (fun k hk => (a1 k hk).1) i
  | 1 => exact ky_cl (n := 23) (fun k hk => (a1 k hk).2.1) i
  | 2 =>
    show y_cl (kmu kE3 119 6) (kmu kE3 130) i = y_cl ((12 : Nat) : Int) (kmu kE3 23) i
    rw [b19, ky_0, ky_no (fun k hk => (a2 k hk).1)]
  | 3 =>
    show y_cl (kmu kE3 119 6) (kmu kE3 131) i = y_cl ((12 : Nat) : Int) (kmu kE3 24) i
    rw [b19, ky_0, ky_no (fun k hk => (a2 k hk).2.1)]
  | 4 => exact ky_cl (n := 12) (f := kmu kE3 129) (f' := fun e => zand (zshr (kmu kE3 20 2) e) 1) (fun k hk => (a2 k hk).2.2.1) i
  | 5 =>
    refine ky_cl (n := 2) (f := fun j => kmu kE3 119 (j + 14)) (f' := kmu kE3 20) (fun k hk => ?_) i
    match k, hk with
    | 0, _ => exact c1
    | 1, _ => exact c2
    | n + 2, h => exact absurd h (by omega)
  | 6 => exact ky_cl (n := 23) (fun k hk => (a1 k hk).2.2.1) i
  | 7 => exact ky_cl (n := 23) (fun k hk => (a1 k hk).2.2.2.1) i
  | 8 => exact ky_cl (n := 23) (fun k hk => (a1 k hk).2.2.2.2) i
  | 9 => exact ky_cl (n := 12) (fun k hk => (a2 k hk).2.2.2.1) i
  | 10 => exact ky_cl (n := 12) (fun k hk => (a2 k hk).2.2.2.2.1) i
  | 11 => exact ky_cl (n := 12) (fun k hk => (a2 k hk).2.2.2.2.2.1) i
  | 12 => exact ky_cl (n := 12) (fun k hk => (a2 k hk).2.2.2.2.2.2.1) i
  | 13 =>
    show (if i = 3 then kmu kE3 119 6 else if i = 0 then kmu kE3 119 0 else if i = 1 then kmu kE3 119 16 else if i = 2 then kmu kE3 119 17 else -1) = if i = 3 then kmu kE3 5 0 else y_cl 3 (kmu kE3 1) i
    by_cases h3 : i = 3
    · rw [if_pos h3, if_pos h3, b19, b20]
    rw [if_neg h3, if_neg h3]
    by_cases h0 : i = 0
    · rw [if_pos h0, h0, y_in (by omega)]
      exact c3
    rw [if_neg h0]
    by_cases h1 : i = 1
    · rw [if_pos h1, h1, y_in (by omega)]
      exact c4
    rw [if_neg h1]
    by_cases h2 : i = 2
    · rw [if_pos h2, h2, y_in (by omega)]
      exact c5
    rw [if_neg h2]
    unfold y_cl
    rw [if_neg (by omega)]
  | 14 =>
    show y_cl (kY0 15 0) (kY0 14) i = y_cl (kmu kE3 12 3) (kmu kE3 (kmu kE3 12 2).toNat) i
    rw [e15, b3, ky_0, ky_0]
  | 15 => rfl
  | n + 16 =>
    unfold kY0
    simp only [vM, vC]
theorem kinv0 : zInv 0 (kmu kE3) := by
  obtain ⟨a1, a2, a3, a4, a5⟩ := kn_a
  obtain ⟨b1, b2, b3, b4, b5, b6, b7, b8, b9, b10, b11, b12, b13, b14, b15, b16, b17, b18, b19, b20⟩ := kn_b
  obtain ⟨c1, c2, c3, c4, c5, c6, c7⟩ := kn_c
  have no : ∀ (f : Int → Int), zli f [] := fun f k v h => by cases h
  refine ⟨(kY0, [], [], [], [], kX0), ?_, ?_, ?_⟩
  · refine ⟨⟨rfl, Or.inl b2, ?_, ?_⟩, ⟨b1, no _⟩, ⟨b5, no _⟩, ⟨⟨b6, no _⟩, b7, ki_all (n := 12) (P := fun e => kmu kE3 64 e = zix [] e) (fun k hk => (a2 k hk).2.2.2.2.2.2.2)⟩, ⟨fun i _ => ⟨rfl, rfl⟩, fun e _ => ⟨rfl, rfl⟩⟩, ⟨b8, fun i hi => ?_, ki_all (n := 8) (P := fun i => kmu kE3 82 i = kX0 7 i) a3, ?_⟩, ⟨b9, fun i hi => ⟨(a4 i hi).1, fun h => absurd rfl h⟩⟩⟩
    · rw [b4, b2]
      rfl
    · rw [b10]
      exact c7.symm
    · have : (0 : Int) ≤ i ∧ i < 0 := hi
      omega
    · refine ⟨fun i hi => ?_, fun i j h1 h2 h3 => ?_, fun t ht => ?_⟩
      · have : (0 : Int) ≤ i ∧ i < 0 := hi
        omega
      · have : j < 0 := h3
        omega
      · have : (0 : Int) ≤ t ∧ t < 0 := ht
        omega
  · refine ⟨⟨kV0, Or.inl ⟨b17, b3⟩, b18⟩, ⟨b11, fun k v h => by cases h⟩, ⟨b12, no _⟩, ⟨⟨b13, no _⟩, b14, no _⟩, ⟨ki_all (n := 3) (P := fun i => kmu kE3 151 i = kX0 0 i ∧ kmu kE3 152 i = kX0 1 i ∧ kmu kE3 155 i = 0) (fun k hk => ⟨(a4 k hk).2.2.2.1, (a4 k hk).2.2.2.2, (a4 k hk).2.2.1⟩), ki_all (n := 12) (P := fun e => kmu kE3 153 e = kX0 2 e ∧ kmu kE3 154 e = kX0 3 e) a5⟩, ⟨b15, fun i hi => ?_⟩, ⟨b16, fun i hi => ⟨Or.inr ⟨(a4 i hi).2.1, rfl⟩, fun h => ?_⟩⟩⟩
    · have : (0 : Int) ≤ i ∧ i < 0 := hi
      omega
    · have : (-1 : Int) = 0 := h
      omega
  · refine ⟨⟨by omega, by omega⟩, ⟨kW0, Or.inl b3, ?_⟩, ⟨by decide, (fun v h => by cases h)⟩, by decide, ⟨by decide, List.nodup_nil, (fun e h => by cases h), List.nodup_nil, (fun e h => by cases h)⟩, ⟨ki_all (n := 3) (P := fun i => 0 ≤ kX0 0 i ∧ kX0 0 i ≤ 999 ∧ 0 ≤ kX0 1 i ∧ kX0 1 i ≤ 999) kn_o.1, ki_all (n := 12) (P := fun e => 0 ≤ kX0 2 e ∧ kX0 2 e ≤ 40 ∧ 0 ≤ kX0 3 e ∧ kX0 3 e ≤ 2) kn_o.2⟩, ⟨⟨?_, ?_⟩, fun i hi => ?_, fun i _ => rfl, fun i j hi => ?_⟩, ⟨⟨?_, ?_⟩, fun i hi => ⟨⟨?_, ?_⟩, fun h => ?_⟩⟩⟩
    · show kmu kE3 20 1 ≤ 600 * 0
      rw [c6]
      omega
    · show (0 : Int) ≤ 0
      omega
    · show (0 : Int) ≤ 8
      omega
    · have : (0 : Int) ≤ i ∧ i < 0 := hi
      omega
    · have : (0 : Int) ≤ i ∧ i < 0 := hi
      omega
    · show (0 : Int) ≤ 0
      omega
    · show (0 : Int) ≤ 0
      omega
    · show (-1 : Int) ≤ -1
      omega
    · show (-1 : Int) ≤ 0
      omega
    · have : (-1 : Int) = 0 := h
      omega
