-- needs 9y
/-! put: the class offers a stall -/
def pt_kk (Q : zPt) (s x y bits : Nat) (w : Int) : Prop := x < pt_m Q ∧ pt_B Q x s = true ∧ ((y = x ∧ bits = 2 ^ x ∧ w = pt_ct Q x (s : Int)) ∨ (x < y ∧ y < pt_m Q ∧ pt_F Q y s = true ∧ pt_G Q x y s = true ∧ bits = 2 ^ x ||| 2 ^ y ∧ w = pt_ct Q x (s : Int) + pt_ct Q y (s : Int)))
def pt_pr (Q : zPt) (s i j bits : Nat) (w : Int) : Prop := ∃ x y, (x < i ∨ (x = i ∧ y < j)) ∧ pt_kk Q s x y bits w
theorem pt_k_kk {Q : zPt} {s bits : Nat} {w : Int} (h : pt_k Q s bits w) : ∃ x y, pt_kk Q s x y bits w := by
  rcases h with ⟨i, hi, hB, e1, e2⟩ | ⟨i, i', hii, hi', hB, hF, hG, e1, e2⟩
  · exact ⟨i, i, hi, hB, Or.inl ⟨rfl, e1, e2⟩⟩
  · exact ⟨i, i', by omega, hB, Or.inr ⟨hii, hi', hF, hG, e1, e2⟩⟩
theorem pt_kk_k {Q : zPt} {s x y bits : Nat} {w : Int} (h : pt_kk Q s x y bits w) : pt_k Q s bits w := by
  obtain ⟨hx, hB, h⟩ := h
  rcases h with ⟨_, e1, e2⟩ | ⟨hxy, hy, hF, hG, e1, e2⟩
  · exact Or.inl ⟨x, hx, hB, e1, e2⟩
  · exact Or.inr ⟨x, y, hxy, hy, hB, hF, hG, e1, e2⟩
theorem pt_rel_mono {Q : zPt} {s : Nat} {pr pr' : Nat → Int → Prop} {b B : Nat → Int} (h : pt_rel Q s pr b B) (e : ∀ bits w, pt_k Q s bits w → pr' bits w → pr bits w) : pt_rel Q s pr' b B := fun y hy => by
  obtain ⟨h1, h2, h3⟩ := h y hy
  exact ⟨h1, fun sub bits w hp hk => h2 sub bits w (e bits w hk hp) hk, h3⟩
theorem pt_rel_jn {Q : zPt} {s bits : Nat} {w : Int} {pr pr' : Nat → Int → Prop} {b B B' : Nat → Int} (h : pt_rel Q s pr b B) (hj : pt_jn (pt_m Q) bits w (fun _ => True) b B B') (hk : pt_k Q s bits w) (e : ∀ bits' w', pt_k Q s bits' w' → pr' bits' w' → pr bits' w' ∨ (bits' = bits ∧ w' = w)) : pt_rel Q s pr' b B' := by
  intro y hy
  obtain ⟨h1, h2, h3⟩ := h y hy
  obtain ⟨j1, j2, j3⟩ := hj y hy
  refine ⟨by omega, fun sub bits' w' hp hk' a1 a2 a3 => ?_, ?_⟩
  · rcases e bits' w' hk' hp with g | ⟨g1, g2⟩
    · have := h2 sub bits' w' g hk' a1 a2 a3
      omega
    · rw [g2]
      exact j2 sub trivial a1 (by rw [← g1]; exact a2) (by rw [← g1]; exact a3)
  · rcases j3 with j3 | ⟨sub, a1, a2, a3, a4⟩
    · rw [j3]
      exact h3
    · exact Or.inr ⟨sub, bits, w, hk, a1, a2, a3, a4⟩
theorem pt_jn_cg {m bits : Nat} {w : Int} {P : Nat → Prop} {b b1 B B1 B' : Nat → Int} (h : pt_jn m bits w P b B B') (e : ∀ t, t < 2 ^ m → b t = b1 t) (e2 : ∀ t, B t = B1 t) : pt_jn m bits w P b1 B1 B' := by
  intro y hy
  obtain ⟨a1, a2, a3⟩ := h y hy
  rw [e2 y] at a1 a3
  refine ⟨a1, fun sub x1 x2 x3 x4 => by rw [← e sub x2]; exact a2 sub x1 x2 x3 x4, ?_⟩
  rcases a3 with a3 | ⟨sub, x1, x2, x3, x4⟩
  · exact Or.inl a3
  · exact Or.inr ⟨sub, x1, x2, x3, by rw [← e sub x1]; exact x4⟩
/-- the cells that offering a stall writes -/
def zEo (μ' μ : zM) : Prop := ∀ j, ¬ (j = 16 ∨ j = 17 ∨ j = 65 ∨ j = 66) → μ' j = μ j
section
variable {g : zG} {d : Nat} {K : Option zV → zM → Prop} {μ Y : zM}
theorem c_offerStall {Q : zPt} {m n s : Nat} {c : Nat → Int} {l : List Int} (hd : 3 ≤ d) (hv : vC μ 20 = Y) (hW : y_W Y) (hR : y_R Y) (hr : zrl μ) (hn : μ 1 0 = (n : Int)) (n4 : 4 ≤ n ∧ n ≤ 23) (h4 : μ 62 4 = (m : Int)) (h6 : 1 ≤ m ∧ m ≤ 6) (hc : ∀ j : Nat, j < m → μ 63 (j : Int) = c j ∧ 0 ≤ c j ∧ c j < 12) (h64 : ∀ e : Int, 0 ≤ e ∧ e < 12 → μ 64 e = zix l e) (hs : s < n) (em : pt_m Q = m)
    (hB : ∀ i : Nat, i < m → pt_B Q i s = (decide (Y 9 (c i) ≤ Y 6 (s : Int)) && f_let Y (s : Int) (c i) true)) (hF : ∀ i : Nat, i < m → pt_F Q i s = (decide (Y 9 (c i) ≤ Y 6 (s : Int)) && f_let Y (s : Int) (c i) false)) (hG : ∀ i j : Nat, i < m → j < m → pt_G Q i j s = (decide (Y 9 (c i) + Y 9 (c j) ≤ Y 6 (s : Int)) && decide (zix l (c j) < zix l (c i)))) (hct : ∀ i : Nat, pt_ct Q i (s : Int) = 4 * f_steps (n : Int) (n : Int) (s : Int) * 191102976 + (s : Int) * (24 : Int) ^ (5 - i))
    (h65 : ∀ t : Nat, t < 2 ^ m → 0 ≤ μ 65 (t : Int) ∧ μ 65 (t : Int) ≤ 1152921504606846976) (h : ∀ μ', zEo μ' μ → pt_rel Q s (fun _ _ => True) (fun t => μ 65 (t : Int)) (fun t => μ' 65 (t : Int)) → K none μ') : zCall g d 5 [.inr (.inr ((0, 0), 62)), .inl (s : Int), .inl ((2 ^ m - 1 : Nat) : Int)] μ K := by
  have p6 : 2 ^ m ≤ 2 ^ 6 := Nat.pow_le_pow_right (by omega) h6.2
  have pp := Nat.two_pow_pos m
  have s23 : s < 23 := by omega
  have v9 : ∀ e : Int, 0 ≤ e ∧ e < 12 → μ 6 e = Y 9 e := fun e he => by
    rw [← hv]
    exact (y_in he).symm
  have v6 : μ 2 (s : Int) = Y 6 (s : Int) := by
    rw [← hv]
    exact (y_in (by omega)).symm
  have len : ∀ e : Int, 0 ≤ e ∧ e < 12 → 0 ≤ Y 9 e ∧ Y 9 e ≤ 1000 := fun e he => by
    have y := (hW.2.2.2 e he).1
    omega
  have ctb : ∀ i : Nat, i < 6 → 0 ≤ pt_ct Q i (s : Int) ∧ pt_ct Q i (s : Int) ≤ 100000000000 := fun i hi => by
    obtain ⟨p1, p2, p3⟩ := pl_24 i hi
    have f0 : 0 ≤ f_steps (n : Int) (n : Int) (s : Int) ∧ f_steps (n : Int) (n : Int) (s : Int) ≤ 23 := by unfold f_steps; omega
    have m0 : 0 ≤ (s : Int) * zRo 1000 (i : Int) := Int.mul_nonneg (by omega) (by omega)
    have m1 : (s : Int) * zRo 1000 (i : Int) ≤ 23 * 7962624 := Int.mul_le_mul (by omega) p3 (by omega) (by omega)
    rw [hct i, ← p1]
    generalize f_steps (n : Int) (n : Int) (s : Int) = F at *
    omega
  obtain ⟨Bf, eBf⟩ : ∃ Bf : Nat → Int, (fun t : Nat => μ 65 (t : Int)) = Bf := ⟨_, rfl⟩
  have Bv : ∀ t : Nat, μ 65 (t : Int) = Bf t := fun t => by rw [← eBf]
  rw [eBf] at h
  refine sX0_offerStall ⟨by omega, ?_⟩
  rw [zwi (x := ((2 ^ m - 1 : Nat) : Int) + 1) (by omega) (by omega), v6]
  refine ⟨by omega, by omega, ?_⟩
  obtain ⟨N0, eN0⟩ : ∃ N0, zcp μ 65 0 66 0 (((2 ^ m - 1 : Nat) : Int) + 1) = N0 := ⟨_, rfl⟩
  have o0 : ∀ j, ¬ j = 66 → N0 j = μ j := fun j hj => by rw [← eN0]; exact zcp_off j hj
  have o66 : ∀ t : Nat, t < 2 ^ m → N0 66 (t : Int) = Bf t := fun t ht => by
    rw [← eN0, zcp_in (by omega), ← Bv, show (t : Int) - 0 + 0 = (t : Int) from by omega]
  rw [eN0]
  refine c_foreLets (m := m) (c := c) (Y := Y) (by omega) (by rw [← hv]; exact vC_off (by omega) hr (fun i hi => o0 i (by omega))) hW hR (zrl_same hr (o0 12 (by omega))) (by rw [o0 62 (by omega)]; exact h4) h6 (fun j hj => by rw [o0 63 (by omega)]; exact hc j hj) s23 (fun N1 hN1 => zi ?_)
  have ft := f_bits_test (fun j => decide (1 ≤ j) && f_let Y (s : Int) (c j) false) m
  have flt := f_bits_lt (fun j => decide (1 ≤ j) && f_let Y (s : Int) (c j) false) m
  obtain ⟨fr, efr⟩ : ∃ fr, f_bits (fun j => decide (1 ≤ j) && f_let Y (s : Int) (c j) false) m = fr := ⟨_, rfl⟩
  rw [efr] at ft flt ⊢
  have hbit : ∀ i : Nat, i < m → zshl 1 (i : Int) = ((2 ^ i : Nat) : Int) ∧ 2 ^ i < 2 ^ m := fun i hi => ⟨by rw [zshl_1 (by omega), show ((i : Int)).toNat = i from by omega], Nat.pow_lt_pow_right (by omega) hi⟩
  have inner : ∀ i : Nat, i < m → pt_B Q i s = true → (∀ N : zM, zEo N μ → (∀ t : Nat, t < 2 ^ m → N 66 (t : Int) = Bf t) → pt_rel Q s (pt_pr Q s (i + 1) (i + 1)) Bf (fun t => N 65 (t : Int)) → zT g d mX0_offerStall K 51 [some (.inr (.inr ((0, 0), 62))), some (.inl (s : Int)), some (.inl ((2 ^ m - 1 : Nat) : Int)), some (.inr (.inr ((1, 12), 6))), some (.inl (Y 6 (s : Int))), some (.inl (fr : Int)), some (.inl ((i + 1 : Nat) : Int)), none, none, none] [] N) →
      ∀ (k j : Nat) (N : zM), j + k = m → i < j → zEo N μ → (∀ t : Nat, t < 2 ^ m → N 66 (t : Int) = Bf t) → pt_rel Q s (pt_pr Q s i j) Bf (fun t => N 65 (t : Int)) → zT g d mX0_offerStall K 121 [some (.inr (.inr ((0, 0), 62))), some (.inl (s : Int)), some (.inl ((2 ^ m - 1 : Nat) : Int)), some (.inr (.inr ((1, 12), 6))), some (.inl (Y 6 (s : Int))), some (.inl (fr : Int)), some (.inl (i : Int)), some (.inl (c i)), some (.inl (j : Int)), none] [] N := by
    intro i hi hBi hnext k
    induction k with
    | zero =>
      intro j N hj hij hN h66 hrel
      obtain rfl : j = m := by omega
      refine sX0_offerStall_121 ⟨fun _ => ?_, fun q => by rw [hN 62 (by omega), h4] at q; omega⟩
      rw [zw_suc (by omega)]
      refine hnext N hN h66 (pt_rel_mono hrel (fun bits w _ hp => ?_))
      obtain ⟨x, y, hxy, hkk⟩ := hp
      refine ⟨x, y, ?_, hkk⟩
      have : x ≤ y ∧ y < j := by
        obtain ⟨a1, _, a3⟩ := hkk
        rcases a3 with ⟨a3, _⟩ | ⟨a2, a3, _⟩ <;> omega
      omega
    | succ k ih =>
      intro j N hj hij hN h66 hrel
      have hjm : j < m := by omega
      obtain ⟨ci1, ci2⟩ := hc i hi
      obtain ⟨cj1, cj2⟩ := hc j hjm
      have li := len _ ci2
      have lj := len _ cj2
      have skip : ¬ (pt_F Q j s = true ∧ pt_G Q i j s = true) → zT g d mX0_offerStall K 121 [some (.inr (.inr ((0, 0), 62))), some (.inl (s : Int)), some (.inl ((2 ^ m - 1 : Nat) : Int)), some (.inr (.inr ((1, 12), 6))), some (.inl (Y 6 (s : Int))), some (.inl (fr : Int)), some (.inl (i : Int)), some (.inl (c i)), some (.inl (zw ((j : Int) + 1))), none] [] N := by
        intro hno
        rw [zw_suc (by omega)]
        refine ih (j + 1) N (by omega) (by omega) hN h66 (pt_rel_mono hrel (fun bits w _ hp => ?_))
        obtain ⟨x, y, hxy, hkk⟩ := hp
        refine ⟨x, y, ?_, hkk⟩
        rcases hxy with z | ⟨z1, z2⟩
        · exact Or.inl z
        · refine Or.inr ⟨z1, ?_⟩
          by_cases z3 : y = j
          · obtain ⟨a1, _, a3⟩ := hkk
            subst z3
            subst z1
            rcases a3 with ⟨a3, _⟩ | ⟨_, _, a4, a5, _⟩
            · omega
            · exact absurd ⟨a4, a5⟩ hno
          · omega
      refine sX0_offerStall_121 ⟨fun q => by rw [hN 62 (by omega), h4] at q; omega, fun _ => ?_⟩
      rw [hN 63 (by omega), cj1, hN 64 (by omega), h64 _ ci2, h64 _ cj2]
      refine ⟨by omega, by omega, by omega, fun q => ?_, fun q => ?_⟩
      · refine sX0_offerStall_157 ⟨fun _ => skip (fun hh => ?_), fun q2 => absurd rfl q2⟩
        rw [hG i j hi hjm, Bool.and_eq_true, decide_eq_true_eq, decide_eq_true_eq] at hh
        omega
      · refine sX0_offerStall_157 ⟨fun q2 => by omega, fun _ => ?_⟩
        rw [z_tst0 (by omega) (by omega), show ((j : Int)).toNat = j from by omega, ft j, decide_eq_true hjm, decide_eq_true (show 1 ≤ j by omega), Bool.true_and, Bool.true_and, hN 63 (by omega), cj1, hN 6 (by omega), v9 _ ci2, v9 _ cj2]
        refine ⟨fun q2 => skip (fun hh => ?_), fun q2 => ⟨by omega, by omega, by omega, ?_⟩⟩
        · rw [hF j hjm, q2, Bool.and_false] at hh
          cases hh.1
        · rw [zwi (x := Y 9 (c i) + Y 9 (c j)) (by omega) (by omega)]
          refine ⟨fun q3 => skip (fun hh => ?_), fun q3 => ⟨by omega, ?_⟩⟩
          · rw [hG i j hi hjm, Bool.and_eq_true, decide_eq_true_eq, decide_eq_true_eq] at hh
            omega
          · have n1 : N 1 0 = (n : Int) := by rw [hN 1 (by omega)]; exact hn
            refine c_weight (n := n) (by omega) n1 n4 (by omega) hs (zj ?_)
            refine c_weight (n := n) (by omega) n1 n4 (by omega) hs (zj ?_)
            have bi := ctb i (by omega)
            have bj := ctb j (by omega)
            obtain ⟨g1, g2⟩ := hbit i hi
            obtain ⟨g3, g4⟩ := hbit j hjm
            rw [← hct i, ← hct j, g1, g3, zor_nat (by omega) (by omega), zxi (x := pt_ct Q i (s : Int) + pt_ct Q j (s : Int)) (by omega) (by omega)]
            have kk : pt_kk Q s i j (2 ^ i ||| 2 ^ j) (pt_ct Q i (s : Int) + pt_ct Q j (s : Int)) := by
              refine ⟨by rw [em]; exact hi, hBi, Or.inr ⟨hij, by rw [em]; exact hjm, ?_, ?_, rfl, rfl⟩⟩
              · rw [hF j hjm, decide_eq_true (show Y 9 (c j) ≤ Y 6 (s : Int) by omega), Bool.true_and]
                cases hb : f_let Y (s : Int) (c j) false
                · exact absurd hb q2
                · rfl
              · rw [hG i j hi hjm, decide_eq_true q3, decide_eq_true q]
                rfl
            refine c_joinTo h6.2 (Nat.or_lt_two_pow g2 g4) (by omega) (fun t ht => by rw [h66 t ht, ← Bv]; exact h65 t ht) (fun N' hN' hjn => zn ?_)
            rw [zw_suc (by omega)]
            have hjn2 : pt_jn (pt_m Q) (2 ^ i ||| 2 ^ j) (pt_ct Q i (s : Int) + pt_ct Q j (s : Int)) (fun _ => True) Bf (fun t => N 65 (t : Int)) (fun t => N' 65 (t : Int)) := by
              rw [em]
              exact pt_jn_cg hjn (fun t ht => h66 t ht) (fun _ => rfl)
            refine ih (j + 1) N' (by omega) (by omega) (fun y hy => by rw [hN' y (by omega)]; exact hN y hy) (fun t ht => by rw [hN' 66 (by omega)]; exact h66 t ht) (pt_rel_jn hrel hjn2 (pt_kk_k kk) (fun bits' w' _ hp => ?_))
            obtain ⟨x, y, hxy, hkk⟩ := hp
            by_cases z : x = i ∧ y = j
            · obtain ⟨rfl, rfl⟩ := z
              obtain ⟨_, _, a3⟩ := hkk
              rcases a3 with ⟨a3, _⟩ | ⟨_, _, _, _, a4, a5⟩
              · omega
              · exact Or.inr ⟨a4, a5⟩
            · exact Or.inl ⟨x, y, by omega, hkk⟩
  have outer : ∀ (k i : Nat) (N : zM), i + k = m → zEo N μ → (∀ t : Nat, t < 2 ^ m → N 66 (t : Int) = Bf t) → pt_rel Q s (pt_pr Q s i i) Bf (fun t => N 65 (t : Int)) → zT g d mX0_offerStall K 51 [some (.inr (.inr ((0, 0), 62))), some (.inl (s : Int)), some (.inl ((2 ^ m - 1 : Nat) : Int)), some (.inr (.inr ((1, 12), 6))), some (.inl (Y 6 (s : Int))), some (.inl (fr : Int)), some (.inl (i : Int)), none, none, none] [] N := by
    intro k
    induction k with
    | zero =>
      intro i N hi hN h66 hrel
      obtain rfl : i = m := by omega
      refine sX0_offerStall_51 ⟨fun _ => h N hN (pt_rel_mono hrel (fun bits w hk _ => ?_)), fun q => by rw [hN 62 (by omega), h4] at q; omega⟩
      obtain ⟨x, y, hkk⟩ := pt_k_kk hk
      exact ⟨x, y, Or.inl (by rw [← em]; exact hkk.1), hkk⟩
    | succ k ih =>
      intro i N hi' hN h66 hrel
      have hi : i < m := by omega
      obtain ⟨ci1, ci2⟩ := hc i hi
      have skip : ∀ N' : zM, zEo N' μ → (∀ t : Nat, t < 2 ^ m → N' 66 (t : Int) = Bf t) → (∀ t : Nat, N' 65 (t : Int) = N 65 (t : Int)) → pt_B Q i s = false → zT g d mX0_offerStall K 51 [some (.inr (.inr ((0, 0), 62))), some (.inl (s : Int)), some (.inl ((2 ^ m - 1 : Nat) : Int)), some (.inr (.inr ((1, 12), 6))), some (.inl (Y 6 (s : Int))), some (.inl (fr : Int)), some (.inl (zw ((i : Int) + 1))), none, none, none] [] N' := by
        intro N' hN' h66' e65 hno
        rw [zw_suc (by omega)]
        have hrel' : pt_rel Q s (pt_pr Q s i i) Bf (fun t => N' 65 (t : Int)) := by
          rw [show (fun t : Nat => N' 65 (t : Int)) = (fun t : Nat => N 65 (t : Int)) from funext e65]
          exact hrel
        refine ih (i + 1) N' (by omega) hN' h66' (pt_rel_mono hrel' (fun bits w _ hp => ?_))
        obtain ⟨x, y, hxy, hkk⟩ := hp
        refine ⟨x, y, Or.inl ?_, hkk⟩
        obtain ⟨a1, a2, a3⟩ := hkk
        by_cases z : x = i
        · rw [z, hno] at a2
          cases a2
        · rcases a3 with ⟨a3, _⟩ | ⟨a3, _⟩ <;> omega
      refine sX0_offerStall_51 ⟨fun q => by rw [hN 62 (by omega), h4] at q; omega, fun _ => ?_⟩
      rw [hN 63 (by omega), ci1, hN 6 (by omega), v9 _ ci2]
      have vN : vC N 20 = Y := by
        rw [← hv]
        exact vC_off (by omega) hr (fun x hx => hN x (by omega))
      refine ⟨by omega, by omega, fun q => skip N hN h66 (fun _ => rfl) (by rw [hB i hi, decide_eq_false (by omega), Bool.false_and]), fun q => ⟨by omega, ?_⟩⟩
      refine c_ruleLets (bb := true) (by omega) (by omega) (zrl_same hr (hN 12 (by omega))) (by rw [vN]; exact hW) (by rw [vN]; exact hR) (by omega) (by omega) rfl (fun M hM q2 => zb1 ?_) (fun M hM q2 => zb0 ?_)
      · rw [vN] at q2
        have hBi : pt_B Q i s = true := by rw [hB i hi, decide_eq_true q, q2]; rfl
        have bi := ctb i (by omega)
        obtain ⟨g1, g2⟩ := hbit i hi
        have hM' : zEo M μ := fun y hy => by rw [hM y (by omega)]; exact hN y hy
        refine c_weight (n := n) (by omega) (by rw [hM' 1 (by omega)]; exact hn) n4 (by omega) hs (zj ?_)
        rw [← hct i, g1]
        refine c_joinTo h6.2 g2 (by omega) (fun t ht => by rw [hM 66 (by omega), h66 t ht, ← Bv]; exact h65 t ht) (fun N' hN' hjn => zn ?_)
        rw [zw_suc (by omega)]
        have hjn2 : pt_jn (pt_m Q) (2 ^ i) (pt_ct Q i (s : Int)) (fun _ => True) Bf (fun t => N 65 (t : Int)) (fun t => N' 65 (t : Int)) := by
          rw [em]
          exact pt_jn_cg hjn (fun t ht => by rw [hM 66 (by omega)]; exact h66 t ht) (fun t => by rw [hM 65 (by omega)])
        have kk : pt_kk Q s i i (2 ^ i) (pt_ct Q i (s : Int)) := ⟨by rw [em]; exact hi, hBi, Or.inl ⟨rfl, rfl, rfl⟩⟩
        refine inner i hi hBi (fun N2 a1 a2 a3 => ih (i + 1) N2 (by omega) a1 a2 a3) k (i + 1) N' (by omega) (by omega) (fun y hy => by rw [hN' y (by omega)]; exact hM' y hy) (fun t ht => by rw [hN' 66 (by omega), hM 66 (by omega)]; exact h66 t ht) (pt_rel_jn hrel hjn2 (pt_kk_k kk) (fun bits' w' _ hp => ?_))
        obtain ⟨x, y, hxy, hkk⟩ := hp
        by_cases z : x = i
        · obtain ⟨_, _, a3⟩ := hkk
          rcases a3 with ⟨_, a4, a5⟩ | ⟨a3, _⟩
          · rw [z] at a4 a5
            exact Or.inr ⟨a4, a5⟩
          · omega
        · exact Or.inl ⟨x, y, by omega, hkk⟩
      · rw [vN] at q2
        exact skip M (fun y hy => by rw [hM y (by omega)]; exact hN y hy) (fun t ht => by rw [hM 66 (by omega)]; exact h66 t ht) (fun t => by rw [hM 65 (by omega)]) (by rw [hB i hi, q2, Bool.and_false])
  refine outer m 0 N1 (by omega) (fun y hy => by rw [hN1 y (by omega)]; exact o0 y (by omega)) (fun t ht => by rw [hN1 66 (by omega)]; exact o66 t ht) ?_
  have e1 : (fun t : Nat => N1 65 (t : Int)) = Bf := by
    funext t
    rw [hN1 65 (by omega), o0 65 (by omega)]
    exact Bv t
  rw [e1]
  refine fun y hy => ⟨Int.le_refl _, fun sub bits w hp _ => ?_, Or.inl rfl⟩
  obtain ⟨x, z, hxz, _⟩ := hp
  omega
end
