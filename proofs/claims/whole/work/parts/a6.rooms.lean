-- needs a5
/-! room: the class seats one -/
def ntz_w (y : Int) : Int := if 0 < y then (if y ≤ 65536 then (if y ≤ 256 then ntz_u y 1 else ntz_u (zushr y 8) (zw (1 + 8))) else (if zushr y 16 ≤ 256 then ntz_u (zushr y 16) (zw (1 + 16)) else ntz_u (zushr (zushr y 16) 8) (zw (zw (1 + 16) + 8)))) else zand y 32
theorem ntz_w_r : ∀ e : Nat, e < 23 → ntz_w (((2 ^ e : Nat) : Int) - 1) = (e : Int) := by decide +kernel
theorem low_1 {m e : Nat} (h1 : m.testBit e = true) (h2 : ∀ i, i < e → m.testBit i = false) : m = 2 ^ (e + 1) * (m / 2 ^ (e + 1)) + 2 ^ e := by
  have a : m % 2 ^ (e + 1) = 2 ^ e := by
    apply Nat.eq_of_testBit_eq
    intro i
    rw [Nat.testBit_mod_two_pow, Nat.testBit_two_pow]
    by_cases q : e = i
    · subst q
      rw [h1]
      simp
    · rw [decide_eq_false q]
      rcases Nat.lt_or_ge i e with z | z
      · rw [h2 i z, Bool.and_false]
      · rw [decide_eq_false (show ¬ i < e + 1 by omega), Bool.false_and]
  have := Nat.div_add_mod m (2 ^ (e + 1))
  rw [a] at this
  exact this.symm
theorem low_2 {m e : Nat} (hm : m < 2147483648) (h1 : m.testBit e = true) (h2 : ∀ i, i < e → m.testBit i = false) (he : e < 23) : zand (zxor (m : Int) (-1)) (zw ((m : Int) - 1)) = ((2 ^ e : Nat) : Int) - 1 := by
  have p := Nat.two_pow_pos e
  have pe : 2 ^ e < 2 ^ 23 := Nat.pow_lt_pow_right (by omega) he
  have e1 := low_1 h1 h2
  obtain ⟨c, hc⟩ : ∃ c, m / 2 ^ (e + 1) = c := ⟨_, rfl⟩
  rw [hc] at e1
  have e2 : m - 1 = 2 ^ (e + 1) * c + (2 ^ e - 1) := by omega
  have m1 : 1 ≤ m := by omega
  rw [zwi (x := (m : Int) - 1) (by omega) (by omega), show (m : Int) - 1 = ((m - 1 : Nat) : Int) from by omega, show ((2 ^ e : Nat) : Int) - 1 = ((2 ^ e - 1 : Nat) : Int) from by omega]
  refine zb_ext (zI32_and _ _) (zI32_nat (by omega)) (fun i hi => ?_)
  rw [zbit_and, zbit_not _ _ hi, zbit_nat _ _ hi, zbit_nat _ _ hi, zbit_nat _ _ hi, Nat.testBit_two_pow_sub_one]
  have l2 : 2 ^ e - 1 < 2 ^ (e + 1) := by rw [Nat.pow_succ]; omega
  have l3 : 2 ^ e < 2 ^ (e + 1) := by rw [Nat.pow_succ]; omega
  have b1 : (m - 1).testBit i = if i < e + 1 then (2 ^ e - 1).testBit i else c.testBit (i - (e + 1)) := by
    rw [e2]
    exact Nat.testBit_two_pow_mul_add c l2 i
  have b2 : m.testBit i = if i < e + 1 then (2 ^ e).testBit i else c.testBit (i - (e + 1)) := by
    have := Nat.testBit_two_pow_mul_add c l3 i
    rw [← e1] at this
    exact this
  rw [b1, b2]
  by_cases q : i < e + 1
  · rw [if_pos q, if_pos q, Nat.testBit_two_pow_sub_one, Nat.testBit_two_pow]
    by_cases z : i < e
    · rw [decide_eq_true z, decide_eq_false (show ¬ e = i by omega)]
      rfl
    · rw [decide_eq_false z, Bool.and_false]
  · rw [if_neg q, if_neg q, decide_eq_false (show ¬ i < e by omega)]
    cases c.testBit (i - (e + 1)) <;> rfl
theorem z_df {s h : Nat} (hs : s < 2 ^ 23) : zand (s : Int) (zxor (h : Int) (-1)) = ((f_bits (fun i => s.testBit i && !h.testBit i) 23 : Nat) : Int) := by
  have lt := f_bits_lt (fun i => s.testBit i && !h.testBit i) 23
  refine zb_ext (zI32_and _ _) (zI32_nat (by omega)) (fun i hi => ?_)
  rw [zbit_and, zbit_not _ _ hi, zbit_nat _ _ hi, zbit_nat _ _ hi, zbit_nat _ _ hi, f_bits_test]
  by_cases q : i < 23
  · rw [decide_eq_true q, Bool.true_and]
  · have : s.testBit i = false := Nat.testBit_lt_two_pow (Nat.lt_of_lt_of_le hs (Nat.pow_le_pow_right (n := 2) (by omega) (show 23 ≤ i by omega)))
    rw [this, decide_eq_false q]
    simp
/-- the least bit -/
theorem low_x : ∀ (k m : Nat), ¬ m = 0 → m < 2 ^ k → ∃ e, e < k ∧ m.testBit e = true ∧ ∀ i, i < e → m.testBit i = false := by
  intro k m h0 hk
  have ex : ∃ i, m.testBit i = true := by
    by_cases q : ∃ i, m.testBit i = true
    · exact q
    · exact absurd (Nat.eq_of_testBit_eq (fun i => by
        rw [Nat.zero_testBit]
        cases z : m.testBit i
        · rfl
        · exact absurd ⟨i, z⟩ q)) h0
  obtain ⟨i, hi⟩ := ex
  obtain ⟨e, h1, _, h3⟩ := ex_least (p := fun i => m.testBit i = true) i hi
  refine ⟨e, ?_, h1, fun j hj => ?_⟩
  · rcases Nat.lt_or_ge e k with z | z
    · exact z
    · rw [Nat.testBit_lt_two_pow (Nat.lt_of_lt_of_le hk (Nat.pow_le_pow_right (n := 2) (by omega) z))] at h1
      cases h1
  · cases z : m.testBit j
    · rfl
    · exact absurd z (h3 j hj)
/-- where those stand that were moved, told by engines -/
def km_g (R : zRm) (T : Nat → Bool) (M b : Nat → Int) (A : Nat → Prop) (e : Nat) (M' b' : Nat → Int) : Prop := (∀ s, A s → M' s = M s) ∧ (∃ s : Nat, s < rm_n R ∧ T s = true ∧ ¬ A s ∧ b' e = (s : Int) ∧ M' s = (e : Int)) ∧ ∀ x, x < 12 → ¬ x = e → (b' x = b x ∧ ∀ s, s < rm_n R → T s = true → ¬ A s → (M' s = (x : Int) ↔ M s = (x : Int))) ∨ ∃ s : Nat, s < rm_n R ∧ T s = true ∧ ¬ A s ∧ b' x = (s : Int) ∧ M' s = (x : Int)
theorem km_g_0 {R : zRm} {T : Nat → Bool} {M b : Nat → Int} {A : Nat → Prop} {e s : Nat} (s1 : s < rm_n R) (s2 : T s = true) (s3 : ¬ A s) (s4 : M s = -1) : km_g R T M b A e (fun x => if x = s then (e : Int) else M x) (fun x => if x = e then (s : Int) else b x) := by
  refine ⟨fun x hx => if_neg (fun z => s3 (by rw [← z]; exact hx)), ⟨s, s1, s2, s3, if_pos rfl, if_pos rfl⟩, fun x hx hne => Or.inl ⟨if_neg hne, fun t t1 t2 t3 => ?_⟩⟩
  show (if t = s then (e : Int) else M t) = (x : Int) ↔ M t = (x : Int)
  by_cases q : t = s
  · rw [if_pos q, q, s4]
    omega
  · rw [if_neg q]
theorem km_g_1 {R : zRm} {T : Nat → Bool} {M b M1 b1 : Nat → Int} {A A1 : Nat → Prop} {e s h : Nat} (s1 : s < rm_n R) (s2 : T s = true) (s3 : ¬ A s) (s4 : M s = (h : Int)) (sub : ∀ x, A x → A1 x) (As : A1 s) (he : ¬ e = h) (g : km_g R T M b A1 h M1 b1) : km_g R T M b A e (fun x => if x = s then (e : Int) else M1 x) (fun x => if x = e then (s : Int) else b1 x) := by
  obtain ⟨g1, g2, g3⟩ := g
  have two : ∀ x : Nat, ¬ x = e → (∃ t : Nat, t < rm_n R ∧ T t = true ∧ ¬ A1 t ∧ b1 x = (t : Int) ∧ M1 t = (x : Int)) → ∃ t : Nat, t < rm_n R ∧ T t = true ∧ ¬ A t ∧ (if x = e then (s : Int) else b1 x) = (t : Int) ∧ (if t = s then (e : Int) else M1 t) = (x : Int) := by
    rintro x hx ⟨t, t1, t2, t3, t4, t5⟩
    exact ⟨t, t1, t2, fun z => t3 (sub t z), by rw [if_neg hx]; exact t4, by rw [if_neg (fun z => t3 (by rw [z]; exact As))]; exact t5⟩
  refine ⟨fun x hx => ?_, ⟨s, s1, s2, s3, if_pos rfl, if_pos rfl⟩, fun x hx hne => ?_⟩
  · show (if x = s then (e : Int) else M1 x) = M x
    rw [if_neg (fun z => s3 (by rw [← z]; exact hx))]
    exact g1 x (sub x hx)
  · by_cases xh : x = h
    · exact Or.inr (two x hne (by rw [xh]; exact g2))
    · rcases g3 x hx xh with ⟨k1, k2⟩ | k
      · refine Or.inl ⟨by show (if x = e then (s : Int) else b1 x) = b x; rw [if_neg hne]; exact k1, fun t t1 t2 t3 => ?_⟩
        show (if t = s then (e : Int) else M1 t) = (x : Int) ↔ M t = (x : Int)
        by_cases q : t = s
        · rw [if_pos q, q, s4]
          omega
        · rw [if_neg q]
          by_cases z : A1 t
          · rw [g1 t z]
          · exact k2 t t1 t2 z
      · exact Or.inr (two x hne k)
theorem km_g_b {R : zRm} {T : Nat → Bool} {M b M' b' : Nat → Int} {e : Nat} (hb : km_b R T M b) (g : km_g R T M b (fun _ => False) e M' b') : km_b R T M' b' := by
  obtain ⟨_, ⟨s, s1, s2, _, s4, s5⟩, g3⟩ := g
  intro x hx
  by_cases q : x = e
  · rw [q]
    exact Or.inr ⟨s, s1, s2, s4, s5⟩
  · rcases g3 x hx q with ⟨k1, k2⟩ | ⟨t, t1, t2, _, t4, t5⟩
    · rcases hb x hx with ⟨b1, b2⟩ | ⟨t, t1, t2, t3, t4⟩
      · refine Or.inl ⟨by rw [k1]; exact b1, fun z => ?_⟩
        obtain ⟨t, t1, t2, t3⟩ := z
        exact b2 ⟨t, t1, t2, (k2 t t1 t2 (fun z => z)).1 t3⟩
      · exact Or.inr ⟨t, t1, t2, by rw [k1]; exact t3, (k2 t t1 t2 (fun z => z)).2 t4⟩
    · exact Or.inr ⟨t, t1, t2, t4, t5⟩
theorem km_f_mono {R : zRm} {T : Nat → Bool} {M : Nat → Int} {A A' : Nat → Prop} {e i j : Nat} (h : km_f R T M A A' e i) (hj : j ≤ i) : km_f R T M A A' e j := ⟨h.1, h.2.1, fun t ht => h.2.2 t (by omega)⟩
def zEse (μ' μ : zM) : Prop := (∀ j, ¬ (j = 62 ∨ j = 68 ∨ j = 69) → μ' j = μ j) ∧ ∀ i, ¬ i = 12 → μ' 62 i = μ 62 i
