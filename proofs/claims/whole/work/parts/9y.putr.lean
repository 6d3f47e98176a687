-- needs 9x
/-! put: the class's leaves -/
theorem jn_rest : ∀ m : Nat, m < 7 → ∀ b : Nat, b < 64 → b < 2 ^ m → zand ((2 ^ m - 1 : Nat) : Int) (zxor (b : Int) (-1)) = (((2 ^ m - 1) ^^^ b : Nat) : Int) := by decide +kernel
def jn_ok : Bool := (List.range 64).all fun r => (List.range 64).all fun s => (!(decide (s &&& r = s) && decide (0 < s))) || (List.range 64).all fun t => (!(decide (t &&& r = t) && decide (t < s))) || decide (t ≤ (s - 1) &&& r)
theorem jn_ok_t : jn_ok = true := by decide +kernel
theorem jn_next (r : Nat) (hr : r < 64) (s : Nat) (hs : s < 64) (h1 : s &&& r = s) (h2 : 0 < s) (t : Nat) (ht : t < 64) (h3 : t &&& r = t) (h4 : t < s) : t ≤ (s - 1) &&& r := by
  have a := jn_ok_t
  unfold jn_ok at a
  have b := List.all_eq_true.1 (List.all_eq_true.1 a r (List.mem_range.2 hr)) s (List.mem_range.2 hs)
  rw [decide_eq_true h1, decide_eq_true h2] at b
  have c := List.all_eq_true.1 (show ((List.range 64).all fun t => (!(decide (t &&& r = t) && decide (t < s))) || decide (t ≤ (s - 1) &&& r)) = true from b) t (List.mem_range.2 ht)
  rw [decide_eq_true h3, decide_eq_true h4] at c
  exact of_decide_eq_true c
theorem pl_24 : ∀ t : Nat, t < 6 → zRo 1000 (t : Int) = (24 : Int) ^ (5 - t) ∧ 1 ≤ zRo 1000 (t : Int) ∧ zRo 1000 (t : Int) ≤ 7962624 := by decide +kernel
theorem jn_dj {m bits sub : Nat} (hs : sub < 2 ^ m) : sub &&& ((2 ^ m - 1) ^^^ bits) = sub ↔ pt_dj sub bits := by
  have um : ∀ u, sub.testBit u = true → u < m := fun u hu => by
    rcases Nat.lt_or_ge u m with z | z
    · exact z
    · rw [Nat.testBit_lt_two_pow (Nat.lt_of_lt_of_le hs (Nat.pow_le_pow_right (n := 2) (by omega) z))] at hu
      cases hu
  constructor
  · intro e u hu
    have h2 : (sub &&& ((2 ^ m - 1) ^^^ bits)).testBit u = true := by rw [e]; exact hu
    rw [Nat.testBit_and, Nat.testBit_xor, Nat.testBit_two_pow_sub_one, decide_eq_true (um u hu), hu] at h2
    revert h2
    cases bits.testBit u <;> simp
  · intro h
    apply Nat.eq_of_testBit_eq
    intro u
    rw [Nat.testBit_and, Nat.testBit_xor, Nat.testBit_two_pow_sub_one]
    cases hb : sub.testBit u
    · rfl
    · rw [h u hb, decide_eq_true (um u hb)]
      rfl
def pt_jn (m bits : Nat) (w : Int) (P : Nat → Prop) (b B B' : Nat → Int) : Prop := ∀ h, h < 2 ^ m → B' h ≤ B h ∧ (∀ sub, P sub → sub < 2 ^ m → pt_dj sub bits → h = sub ||| bits → B' h ≤ b sub + w) ∧ (B' h = B h ∨ ∃ sub, sub < 2 ^ m ∧ pt_dj sub bits ∧ h = sub ||| bits ∧ B' h = b sub + w)
theorem pt_jn_up {m bits s : Nat} {w : Int} {P P' : Nat → Prop} {b B B' B'' : Nat → Int} (h : pt_jn m bits w P b B B') (hs : s < 2 ^ m) (hd : pt_dj s bits) (hP : ∀ t, pt_dj t bits → P' t → P t ∨ t = s) (e1 : B'' (s ||| bits) = min (B' (s ||| bits)) (b s + w)) (e2 : ∀ y, ¬ y = s ||| bits → B'' y = B' y) : pt_jn m bits w P' b B B'' := by
  intro y hy
  obtain ⟨h1, h2, h3⟩ := h y hy
  by_cases q : y = s ||| bits
  · subst q
    refine ⟨by omega, fun sub hp a1 a2 a3 => ?_, ?_⟩
    · rcases hP sub a2 hp with g | g
      · have := h2 sub g a1 a2 a3
        omega
      · rw [g]
        omega
    · by_cases z : B' (s ||| bits) ≤ b s + w
      · rw [e1, Int.min_eq_left z]
        exact h3
      · exact Or.inr ⟨s, hs, hd, rfl, by clear h1 h2 h3 h; omega⟩
  · rw [e2 y q]
    refine ⟨h1, fun sub hp a1 a2 a3 => ?_, h3⟩
    rcases hP sub a2 hp with g | g
    · exact h2 sub g a1 a2 a3
    · exact absurd (by rw [a3, g]) q
section
variable {g : zG} {d : Nat} {K : Option zV → zM → Prop} {μ Y : zM}
theorem c_joinTo {m bits : Nat} {w : Int} (h6 : m ≤ 6) (hb : bits < 2 ^ m) (hw : 0 ≤ w ∧ w ≤ 1152921504606846976) (h66 : ∀ t : Nat, t < 2 ^ m → 0 ≤ μ 66 (t : Int) ∧ μ 66 (t : Int) ≤ 1152921504606846976) (h : ∀ μ', (∀ j, ¬ j = 65 → μ' j = μ j) → pt_jn m bits w (fun _ => True) (fun t => μ 66 (t : Int)) (fun t => μ 65 (t : Int)) (fun t => μ' 65 (t : Int)) → K none μ') : zCall g d 8 [.inr (.inr ((0, 0), 62)), .inl (bits : Int), .inr (.inl w), .inl ((2 ^ m - 1 : Nat) : Int)] μ K := by
  have p6 : 2 ^ m ≤ 2 ^ 6 := Nat.pow_le_pow_right (by omega) h6
  refine sX0_joinTo ?_
  rw [jn_rest m (by omega) bits (by omega) hb]
  have dj : ∀ sub, sub < 2 ^ m → (sub &&& ((2 ^ m - 1) ^^^ bits) = sub ↔ pt_dj sub bits) := fun sub hs => jn_dj hs
  have rlt : (2 ^ m - 1) ^^^ bits < 2 ^ m := Nat.xor_lt_two_pow (by have := Nat.two_pow_pos m; omega) hb
  obtain ⟨r, er⟩ : ∃ r, (2 ^ m - 1) ^^^ bits = r := ⟨_, rfl⟩
  rw [er] at dj rlt ⊢
  have loop : ∀ (s : Nat) (N : zM) (x6 : Int), 0 ≤ x6 → zand x6 (r : Int) = (s : Int) → s < 2 ^ m → s &&& r = s → (∀ j, ¬ j = 65 → N j = μ j) → pt_jn m bits w (fun t => s < t) (fun t => μ 66 (t : Int)) (fun t => μ 65 (t : Int)) (fun t => N 65 (t : Int)) → zT g d mX0_joinTo K 12 [some (.inr (.inr ((0, 0), 62))), some (.inl (bits : Int)), some (.inr (.inl w)), none, none, some (.inl (r : Int)), some (.inl x6), none, none] [] N := by
    intro s
    induction s using Nat.strongRecOn with
    | ind s ih =>
      intro N x6 h0 hz hs hsr hN hj
      have next : ∀ N' : zM, (∀ j, ¬ j = 65 → N' j = μ j) → pt_jn m bits w (fun t => s ≤ t) (fun t => μ 66 (t : Int)) (fun t => μ 65 (t : Int)) (fun t => N' 65 (t : Int)) → zT g d mX0_joinTo K 12 [some (.inr (.inr ((0, 0), 62))), some (.inl (bits : Int)), some (.inr (.inl w)), none, none, some (.inl (r : Int)), some (.inl (zw ((s : Int) + (-1)))), none, none] [] N' := by
        intro N' hN' hj'
        rw [zwi (x := (s : Int) + (-1)) (by omega) (by omega)]
        by_cases q : s = 0
        · refine sX0_joinTo_12 ⟨fun _ => h N' hN' (fun y hy => ?_), fun q2 => by omega⟩
          obtain ⟨a1, a2, a3⟩ := hj' y hy
          exact ⟨a1, fun sub _ => a2 sub (by omega), a3⟩
        · rw [show (s : Int) + (-1) = ((s - 1 : Nat) : Int) from by omega]
          have le1 : (s - 1) &&& r ≤ s - 1 := Nat.and_le_left
          have sub2 : ((s - 1) &&& r) &&& r = (s - 1) &&& r := by rw [Nat.and_assoc, Nat.and_self]
          refine ih ((s - 1) &&& r) (by omega) N' _ (by omega) (zand_nat (by omega) (by omega)) (by omega) sub2 hN' (fun y hy => ?_)
          obtain ⟨a1, a2, a3⟩ := hj' y hy
          refine ⟨a1, fun sub hp b1 b2 b3 => a2 sub ?_ b1 b2 b3, a3⟩
          rcases Nat.lt_or_ge sub s with z | z
          · have := jn_next r (by omega) s (by omega) hsr (by omega) sub (by omega) ((dj sub b1).2 b2) z
            omega
          · exact z
      have olt : s ||| bits < 2 ^ m := Nat.or_lt_two_pow hs hb
      refine sX0_joinTo_12 ⟨fun q => by omega, fun _ => ?_⟩
      have b66 := h66 s hs
      rw [hz, zor_nat (by omega) (by omega), hN 66 (by omega), zxi (x := μ 66 (s : Int) + w) (by omega) (by omega), zcmp_0.1, zcmp_0.2]
      refine ⟨by omega, by omega, fun q => ?_, fun q => ?_⟩
      · exact next N hN (pt_jn_up hj hs ((dj s hs).1 hsr) (fun t _ ht => by omega) (by show N 65 ((s ||| bits : Nat) : Int) = _; omega) (fun _ _ => rfl))
      · refine next _ (fun j hj' => by rw [zU_off j hj']; exact hN j hj') (pt_jn_up hj hs ((dj s hs).1 hsr) (fun t _ ht => by omega) ?_ (fun y hy => ?_))
        · show zU N 65 ((s ||| bits : Nat) : Int) (μ 66 (s : Int) + w) 65 ((s ||| bits : Nat) : Int) = _
          rw [zU_eq]
          omega
        · show zU N 65 ((s ||| bits : Nat) : Int) (μ 66 (s : Int) + w) 65 (y : Int) = N 65 (y : Int)
          rw [zU_ne (by omega)]
  refine loop r μ (r : Int) (by omega) ?_ rlt (Nat.and_self r) (fun _ _ => rfl) (fun y hy => ⟨Int.le_refl _, fun sub hp b1 b2 b3 => ?_, Or.inl rfl⟩)
  · rw [zand_nat (by omega) (by omega), Nat.and_self]
  · have := (dj sub b1).2 b2
    have l : sub &&& r ≤ r := Nat.and_le_right
    omega
theorem c_weight {i s n : Nat} (hd : 1 ≤ d) (hn : μ 1 0 = (n : Int)) (n4 : 4 ≤ n ∧ n ≤ 23) (hi : i < 6) (hs : s < n) (h : K (some (.inr (.inl (4 * f_steps (n : Int) (n : Int) (s : Int) * 191102976 + (s : Int) * (24 : Int) ^ (5 - i))))) μ) : zCall g d 7 [.inr (.inr ((0, 0), 62)), .inl (i : Int), .inl (s : Int)] μ K := by
  obtain ⟨p1, p2, p3⟩ := pl_24 i hi
  have f0 : 0 ≤ f_steps (n : Int) (n : Int) (s : Int) ∧ f_steps (n : Int) (n : Int) (s : Int) ≤ 23 := by unfold f_steps; omega
  refine sX0_weight ⟨by omega, c_steps (by omega) (by omega) (by omega) (zi ⟨by omega, ?_⟩)⟩
  have m0 : 0 ≤ (s : Int) * zRo 1000 (i : Int) := Int.mul_nonneg (by omega) (by omega)
  have m1 : (s : Int) * zRo 1000 (i : Int) ≤ 23 * 7962624 := Int.mul_le_mul (by omega) p3 (by omega) (by omega)
  rw [hn]
  rw [← p1] at h
  generalize f_steps (n : Int) (n : Int) (s : Int) = F at *
  rw [zwi (x := 4 * F) (by omega) (by omega), zxi (x := 4 * F * 191102976) (by omega) (by omega), zxi (x := (s : Int) * zRo 1000 (i : Int)) (by omega) (by omega), zxi (x := 4 * F * 191102976 + (s : Int) * zRo 1000 (i : Int)) (by omega) (by omega)]
  exact h
theorem c_foreLets {m s : Nat} {c : Nat → Int} (hd : 2 ≤ d) (hv : vC μ 20 = Y) (hW : y_W Y) (hR : y_R Y) (hr : zrl μ) (h4 : μ 62 4 = (m : Int)) (h6 : 1 ≤ m ∧ m ≤ 6) (hc : ∀ j : Nat, j < m → μ 63 (j : Int) = c j ∧ 0 ≤ c j ∧ c j < 12) (hs : s < 23) (h : ∀ μ', zEq16 μ' μ → K (some (.inl ((f_bits (fun j => decide (1 ≤ j) && f_let Y (s : Int) (c j) false) m : Nat) : Int))) μ') : zCall g d 6 [.inr (.inr ((0, 0), 62)), .inl (s : Int)] μ K := by
  refine sX0_foreLets ?_
  have b64 : ∀ j, j ≤ m → f_bits (fun j => decide (1 ≤ j) && f_let Y (s : Int) (c j) false) j < 64 := fun j hj => by
    have := f_bits_lt (fun j => decide (1 ≤ j) && f_let Y (s : Int) (c j) false) j
    have p6 : 2 ^ j ≤ 2 ^ 6 := Nat.pow_le_pow_right (by omega) (by omega)
    omega
  have loop : ∀ (k j : Nat) (N : zM), j + k = m → 1 ≤ j → zEq16 N μ → zT g d mX0_foreLets K 4 [some (.inr (.inr ((0, 0), 62))), some (.inl (s : Int)), some (.inl ((f_bits (fun j => decide (1 ≤ j) && f_let Y (s : Int) (c j) false) j : Nat) : Int)), some (.inl (j : Int))] [] N := by
    intro k
    induction k with
    | zero =>
      intro j N hj h1 hN
      obtain rfl : j = m := by omega
      exact sX0_foreLets_4 ⟨fun _ => h N hN, fun q => by rw [hN 62 (by omega), h4] at q; omega⟩
    | succ k ih =>
      intro j N hj h1 hN
      obtain ⟨c1, c2⟩ := hc j (by omega)
      have vN : vC N 20 = Y := by rw [hN.v hr (by omega), hv]
      have bj := b64 j (by omega)
      refine sX0_foreLets_4 ⟨fun q => by rw [hN 62 (by omega), h4] at q; omega, fun _ => ⟨by omega, by omega, ?_⟩⟩
      rw [hN 63 (by omega), c1]
      have e1 : (decide (1 ≤ j) && f_let Y (s : Int) (c j) false) = f_let Y (s : Int) (c j) false := by rw [decide_eq_true h1, Bool.true_and]
      refine c_ruleLets (bb := false) (by omega) (by omega) (hN.rl hr) (by rw [vN]; exact hW) (by rw [vN]; exact hR) (by omega) (by omega) rfl (fun M hM q => zb1 ?_) (fun M hM q => zb0 ?_)
      · rw [vN] at q
        have p6 : 2 ^ j ≤ 2 ^ 6 := Nat.pow_le_pow_right (by omega) (by omega)
        rw [zshl_1 (by omega), show ((j : Int)).toNat = j from by omega, zor_nat (by omega) (by omega), zw_suc (by omega), f_bits_or (fun j => decide (1 ≤ j) && f_let Y (s : Int) (c j) false) j (by rw [e1]; exact q)]
        exact ih (j + 1) M (by omega) (by omega) (hM.trans hN)
      · rw [vN] at q
        have e : f_bits (fun j => decide (1 ≤ j) && f_let Y (s : Int) (c j) false) (j + 1) = f_bits (fun j => decide (1 ≤ j) && f_let Y (s : Int) (c j) false) j := by
          rw [f_bits, if_neg (by rw [e1, q]; simp), Nat.add_zero]
        rw [zw_suc (by omega), ← e]
        exact ih (j + 1) M (by omega) (by omega) (hM.trans hN)
  have := loop (m - 1) 1 μ (by omega) (by omega) (zEq16.refl μ)
  have e0 : f_bits (fun j => decide (1 ≤ j) && f_let Y (s : Int) (c j) false) 1 = 0 := by
    rw [f_bits, if_neg (by simp), f_bits]
  rw [e0] at this
  exact this
end
