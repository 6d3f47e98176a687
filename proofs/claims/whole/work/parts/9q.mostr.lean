-- needs 9p
/-! most, fails: the class offers an engine to its table -/
def lo8 (m : Nat) : Nat := if m % 2 = 1 then 0 else if m / 2 % 2 = 1 then 1 else if m / 4 % 2 = 1 then 2 else if m / 8 % 2 = 1 then 3 else if m / 16 % 2 = 1 then 4 else if m / 32 % 2 = 1 then 5 else if m / 64 % 2 = 1 then 6 else 7
theorem lo8_t : ∀ m : Nat, m < 256 → (1 ≤ m → zand (zxor (m : Int) (-1)) (zw ((m : Int) - 1)) = ((2 ^ lo8 m : Nat) : Int) - 1 ∧ m.testBit (lo8 m) = true ∧ lo8 m < 8 ∧ zand (m : Int) (zw ((m : Int) - 1)) = ((m ^^^ 2 ^ lo8 m : Nat) : Int) ∧ m ^^^ 2 ^ lo8 m < m) := by decide +kernel
theorem pl_13 : ∀ t : Nat, t < 8 → zRo 1001 (t : Int) = (13 : Int) ^ (7 - t) ∧ 1 ≤ zRo 1001 (t : Int) ∧ zRo 1001 (t : Int) ≤ 62748517 := by decide +kernel
theorem zcmp_0 {x y : Int} : (0 ≤ zcmp x y ↔ y ≤ x) ∧ (zcmp x y < 0 ↔ x < y) := by
  unfold zcmp
  split
  · omega
  · split <;> omega
theorem zxi {x : Int} (h1 : -9223372036854775808 ≤ x) (h2 : x ≤ 9223372036854775807) : zx x = x := by
  unfold zx
  omega
theorem z_dif {s h : Nat} (hs : s < 256) : zand (s : Int) (zxor (h : Int) (-1)) = ((f_bits (fun i => s.testBit i && !h.testBit i) 8 : Nat) : Int) := by
  have lt := f_bits_lt (fun i => s.testBit i && !h.testBit i) 8
  refine zb_ext (zI32_and _ _) (zI32_nat (by omega)) (fun i hi => ?_)
  rw [zbit_and, zbit_not _ _ hi, zbit_nat _ _ hi, zbit_nat _ _ hi, zbit_nat _ _ hi, f_bits_test]
  by_cases q : i < 8
  · rw [decide_eq_true q, Bool.true_and]
  · have : s.testBit i = false := Nat.testBit_lt_two_pow (Nat.lt_of_lt_of_le hs (Nat.pow_le_pow_right (n := 2) (by omega) (show 8 ≤ i by omega)))
    rw [this, decide_eq_false q]
    simp
theorem or_gt {x t : Nat} (h : x.testBit t = false) : x < x ||| 2 ^ t := by
  rcases Nat.lt_or_ge x (x ||| 2 ^ t) with q | q
  · exact q
  · have l : x ≤ x ||| 2 ^ t := Nat.left_le_or
    have e : x ||| 2 ^ t = x := by omega
    have this : (x ||| 2 ^ t).testBit t = x.testBit t := by rw [e]
    rw [or_test, h] at this
    simp at this
theorem mf_rel_pr {P : zMf} {j : Nat} {pr pr' : Nat → Nat → Prop} {b b' : Nat → Int} (h : mf_rel P j pr b b') (e : ∀ h h' t, mf_st P j b h h' t → (pr h' t ↔ pr' h' t)) : mf_rel P j pr' b b' := by
  intro x hx
  obtain ⟨h1, h2, h3⟩ := h x hx
  refine ⟨h1, fun h' t hp hs => h2 h' t ((e x h' t hs).2 hp) hs, ?_⟩
  rcases h3 with h3 | ⟨h', t, hp, hs, h3⟩
  · exact Or.inl h3
  · exact Or.inr ⟨h', t, (e x h' t hs).1 hp, hs, h3⟩
theorem mf_rel_up {P : zMf} {j x t : Nat} {pr : Nat → Nat → Prop} {b f f' : Nat → Int} (h : mf_rel P j pr b f) (hs : mf_st P j b (x ||| 2 ^ t) x t) (e1 : f' (x ||| 2 ^ t) = min (f (x ||| 2 ^ t)) (b x + mf_wt P j t)) (e2 : ∀ y, ¬ y = x ||| 2 ^ t → f' y = f y) : mf_rel P j (fun h' t' => pr h' t' ∨ (h' = x ∧ t' = t)) b f' := by
  intro y hy
  obtain ⟨h1, h2, h3⟩ := h y hy
  by_cases q : y = x ||| 2 ^ t
  · rw [q] at h1 h2 h3 ⊢
    rw [e1]
    refine ⟨by omega, fun h' t' hp hs' => ?_, ?_⟩
    · rcases hp with hp | ⟨r1, r2⟩
      · have := h2 h' t' hp hs'
        omega
      · rw [r1, r2]
        omega
    · by_cases q2 : f (x ||| 2 ^ t) ≤ b x + mf_wt P j t
      · rcases h3 with h3 | ⟨h', t', hp, hs', h3⟩
        · exact Or.inl (by omega)
        · exact Or.inr ⟨h', t', Or.inl hp, hs', by omega⟩
      · exact Or.inr ⟨x, t, Or.inr ⟨rfl, rfl⟩, hs, by clear h1 h2 h3 h; omega⟩
  · rw [e2 y q]
    refine ⟨h1, fun h' t' hp hs' => ?_, ?_⟩
    · rcases hp with hp | ⟨r1, r2⟩
      · exact h2 h' t' hp hs'
      · exact absurd (by rw [hs'.2.2.2.2.1, r1, r2]) q
    · rcases h3 with h3 | ⟨h', t', hp, hs', h3⟩
      · exact Or.inl h3
      · exact Or.inr ⟨h', t', Or.inl hp, hs', h3⟩
section
variable {g : zG} {d : Nat} {K : Option zV → zM → Prop} {μ Y X : zM} {wo pl : Int} {n E j : Nat}
theorem j_ntz8 {m : Nat} (h0 : 1 ≤ m) (hm : m < 256) (h : K (some (.inl (lo8 m : Int))) μ) : zCall g d 282 [.inl (m : Int)] μ K := by
  obtain ⟨t1, t2, t3, t4, t5⟩ := lo8_t m hm h0
  have r := ntz_r (lo8 m) (by omega)
  rw [← r.1] at h
  refine sJ6_numberOfTrailingZeros_0f7a4 ?_
  rw [t1]
  generalize ((2 ^ lo8 m : Nat) : Int) - 1 = y at *
  unfold ntz_v at h
  refine ⟨fun q => ⟨fun _ => ⟨fun q2 => j_ntz49 ?_, fun q2 => j_ntz49 ?_⟩, fun q2 => by omega⟩, fun q => ?_⟩
  · rw [if_pos q, if_pos q2] at h; exact h
  · rw [if_pos q, if_neg (by omega)] at h; exact h
  · rw [if_neg (by omega)] at h; exact h
theorem c_offerEngine (hd : 4 ≤ d) (hv : vC μ 20 = Y) (hW : y_W Y) (hN : cN μ X) (hi : iN Y X) (hr : zrl μ) (hn : X 8 0 = (n : Int)) (hE : Y 13 3 = (E : Int)) (hj : j < E) (hwo : ¬ (j : Int) = wo) (hb : ∀ h : Nat, h < 2 ^ n → 0 ≤ μ 84 (h : Int) ∧ μ 84 (h : Int) ≤ 1152921504606846976)
    (h : ∀ μ', (∀ k, ¬ (k = 84 ∨ k = 85) → μ' k = μ k) → mf_rel (Y, X, wo, pl, n, E) j (fun _ _ => True) (fun h => μ 84 (h : Int)) (fun h => μ' 84 (h : Int)) → K none μ') : zCall g d 70 [.inr (.inr ((0, 8), 78)), .inl (j : Int), .inl pl] μ K := by
  have w := hW.1
  have i1 := hi.1
  have n8 : n ≤ 8 := by omega
  have j12 : j < 12 := by omega
  have p256 : 2 ^ n ≤ 2 ^ 8 := Nat.pow_le_pow_right (by omega) n8
  have pp := Nat.two_pow_pos n
  have m78 : μ 78 3 = (n : Int) := hN.1.trans hn
  obtain ⟨P, hP⟩ : ∃ P : zMf, (Y, X, wo, pl, n, E) = P := ⟨_, rfl⟩
  have en : mf_n P = n := by rw [← hP]; rfl
  have kk : ∀ t : Nat, mf_k P t j = f_fit Y X (j : Int) (t : Int) := fun t => by
    rw [← hP]
    show (decide (¬ (j : Int) = wo) && f_fit Y X (j : Int) (t : Int)) = _
    rw [decide_eq_true hwo, Bool.true_and]
  have ewt : ∀ t : Nat, mf_wt P j t = ((j : Int) + 1) * (13 : Int) ^ (7 - t) + 815730721 * (mf_p P t (j : Int) - mf_p P t (-1)) := fun t => by
    unfold mf_wt mf_ct
    rw [show (-1 : Int) + 1 = 0 from rfl, Int.zero_mul, Int.mul_sub]
    omega
  have ep : ∀ (t : Nat) (c : Int), mf_p P t c = if ¬ pl = 0 ∧ ¬ X 7 (t : Int) = c then 1 else 0 := fun t c => by rw [← hP]; rfl
  have bwt : ∀ t : Nat, t < 8 → -815730721 ≤ mf_wt P j t ∧ mf_wt P j t ≤ 1700000000 := fun t ht => by
    have a := (pl_13 t ht).2
    have b1 := mf_p_b P t (j : Int)
    have b2 := mf_p_b P t (-1)
    rw [ewt t, ← (pl_13 t ht).1]
    have m1 : 0 ≤ ((j : Int) + 1) * zRo 1001 (t : Int) := Int.mul_nonneg (by omega) (by omega)
    have m2 : ((j : Int) + 1) * zRo 1001 (t : Int) ≤ 12 * 62748517 := Int.mul_le_mul (by omega) (by omega) (by omega) (by omega)
    omega
  rw [hP] at h
  obtain ⟨b, hbd⟩ : ∃ b : Nat → Int, (fun h : Nat => μ 84 (h : Int)) = b := ⟨_, rfl⟩
  have hb' : ∀ h, h < 2 ^ n → 0 ≤ b h ∧ b h ≤ 1152921504606846976 := fun h hh => by rw [← hbd]; exact hb h hh
  rw [hbd] at h
  -- the table, from the greatest set down
  have table : ∀ (s : Nat) (N : zM), s < 256 → (∀ t, t < n → s.testBit t = mf_k P t j) → (∀ t, n ≤ t → s.testBit t = false) → (∀ t, t < n → mf_k P t j = true → N 85 (t : Int) = mf_wt P j t) → (∀ k, ¬ (k = 84 ∨ k = 85) → N k = μ k) → ∀ (c : Nat) (N : zM), c ≤ 2 ^ n → (∀ t, t < n → mf_k P t j = true → N 85 (t : Int) = mf_wt P j t) → (∀ k, ¬ (k = 84 ∨ k = 85) → N k = μ k) → (∀ h : Nat, h < c → N 84 (h : Int) = b h) → mf_rel P j (fun h' _ => c ≤ h') b (fun h => N 84 (h : Int)) → zT g d mX8_offerEngine K 132 [some (.inr (.inr ((0, 8), 78))), none, none, some (.inl (s : Int)), some (.inl ((c : Int) - 1)), none, none, none] [] N := by
    intro s _ hs256 hsb hsb2 _ _ c
    induction c with
    | zero =>
      intro N _ h85 hN' hlo hrel
      refine sX8_offerEngine_132 ⟨fun _ => h N hN' (mf_rel_pr hrel (fun _ _ _ _ => ⟨fun _ => trivial, fun _ => Nat.zero_le _⟩)), fun q => by omega⟩
    | succ x ih =>
      intro N hc h85 hN' hlo hrel
      have bx := hb' x (by omega)
      have nx : N 84 (x : Int) = b x := hlo x (by omega)
      rw [show ((x + 1 : Nat) : Int) - 1 = (x : Int) from by omega]
      -- on to the next
      have on : ∀ N2 : zM, (∀ t, t < n → mf_k P t j = true → N2 85 (t : Int) = mf_wt P j t) → (∀ k, ¬ (k = 84 ∨ k = 85) → N2 k = μ k) → (∀ h : Nat, h < x + 1 → N2 84 (h : Int) = b h) → mf_rel P j (fun h' _ => x ≤ h') b (fun h => N2 84 (h : Int)) → zT g d mX8_offerEngine K 132 [some (.inr (.inr ((0, 8), 78))), none, none, some (.inl (s : Int)), some (.inl (zw ((x : Int) + (-1)))), none, none, none] [] N2 := by
        intro N2 a1 a2 a3 a4
        rw [show (x : Int) + -1 = (x : Int) - 1 from by omega, zwi (x := (x : Int) - 1) (by omega) (by omega)]
        exact ih N2 (by omega) a1 a2 (fun h hh => a3 h (by omega)) a4
      have inner : ∀ (k o : Nat) (N2 : zM), o ≤ k → o < 256 → (∀ t, o.testBit t = true → s.testBit t = true ∧ x.testBit t = false) → b x < 1152921504606846976 → (∀ t, t < n → mf_k P t j = true → N2 85 (t : Int) = mf_wt P j t) → (∀ k, ¬ (k = 84 ∨ k = 85) → N2 k = μ k) → (∀ h : Nat, h < x + 1 → N2 84 (h : Int) = b h) → mf_rel P j (fun h' t => x + 1 ≤ h' ∨ (h' = x ∧ o.testBit t = false)) b (fun h => N2 84 (h : Int)) → zT g d mX8_offerEngine K 162 [some (.inr (.inr ((0, 8), 78))), none, none, some (.inl (s : Int)), some (.inl (x : Int)), some (.inl (o : Int)), none, none] [] N2 := by
        intro k
        induction k with
        | zero =>
          intro o N2 hk ho hob hfar a1 a2 a3 a4
          obtain rfl : o = 0 := by omega
          refine sX8_offerEngine_162 ⟨fun _ => on N2 a1 a2 a3 (mf_rel_pr a4 (fun y h' t _ => ⟨fun q => ?_, fun q => ?_⟩)), fun q => absurd rfl q⟩
          · rcases q with q | q
            · omega
            · omega
          · rcases Nat.lt_or_ge x h' with q2 | q2
            · exact Or.inl (by omega)
            · exact Or.inr ⟨by omega, Nat.zero_testBit t⟩
        | succ k ihk =>
          intro o N2 hk ho hob hfar a1 a2 a3 a4
          by_cases o0 : o = 0
          · subst o0
            exact ihk 0 N2 (by omega) ho hob hfar a1 a2 a3 a4
          · obtain ⟨t1, t2, t3, t4, t5⟩ := lo8_t o ho (by omega)
            obtain ⟨t, et⟩ : ∃ t, lo8 o = t := ⟨_, rfl⟩
            rw [et] at t1 t2 t3 t4 t5
            obtain ⟨st1, xt⟩ := hob t t2
            have tn : t < n := by
              rcases Nat.lt_or_ge t n with q | q
              · exact q
              · have := hsb2 t q
                rw [st1] at this
                cases this
            have kt : mf_k P t j = true := by rw [← hsb t tn]; exact st1
            have orx := or_gt xt
            have t2n : 2 ^ t < 2 ^ n := Nat.pow_lt_pow_right (by omega) tn
            have orn : x ||| 2 ^ t < 2 ^ n := Nat.or_lt_two_pow (by omega) t2n
            have ezor : zor (x : Int) (zshl 1 (t : Int)) = ((x ||| 2 ^ t : Nat) : Int) := by
              rw [zshl_1 (by omega), show ((t : Int)).toNat = t from by omega, zor_nat (by omega) (by omega)]
            have bw := bwt t (by omega)
            refine sX8_offerEngine_162 ⟨fun q => by omega, fun _ => ⟨by omega, j_ntz8 (by omega) ho (zi ?_)⟩⟩
            rw [et, ezor, t4, a3 x (by omega), a1 t tn kt, zxi (x := b x + mf_wt P j t) (by omega) (by omega)]
            refine ⟨by omega, by omega, by omega, ?_⟩
            have hst : mf_st P j b (x ||| 2 ^ t) x t := ⟨by rw [en]; omega, by rw [en]; exact tn, kt, xt, rfl, hfar⟩
            have up := mf_rel_up (f' := fun h => zU N2 84 ((x ||| 2 ^ t : Nat) : Int) (min (N2 84 ((x ||| 2 ^ t : Nat) : Int)) (b x + mf_wt P j t)) 84 (h : Int)) a4 hst zU_eq (fun y hy => zU_ne (by omega))
            refine ihk (o ^^^ 2 ^ t) _ (by omega) (by omega) (fun u hu => ?_) hfar (fun u hu hk' => by rw [zU_off 85 (by omega)]; exact a1 u hu hk') (fun k hk' => by rw [zU_off k (by omega)]; exact a2 k hk') (fun h hh => by rw [zU_ne (by omega)]; exact a3 h hh) (mf_rel_pr up (fun y h' u hs' => ?_))
            · rw [Nat.testBit_xor, Nat.testBit_two_pow] at hu
              by_cases q : t = u
              · subst q
                rw [t2] at hu
                simp at hu
              · rw [decide_eq_false q, Bool.xor_false] at hu
                exact hob u hu
            · rw [Nat.testBit_xor, Nat.testBit_two_pow]
              by_cases q : t = u
              · subst q
                rw [t2]
                simp
              · rw [decide_eq_false q, Bool.xor_false]
                constructor
                · rintro (hh | ⟨_, hh⟩)
                  · exact hh
                  · exact absurd hh.symm q
                · exact Or.inl
      refine sX8_offerEngine_132 ⟨fun q => by omega, fun _ => ⟨by omega, fun q => ?_, fun q => ?_⟩⟩
      · rw [zcmp_0.2, nx] at q
        rw [z_dif hs256]
        have ft : ∀ t, (f_bits (fun i => s.testBit i && !x.testBit i) 8).testBit t = (decide (t < 8) && (s.testBit t && !x.testBit t)) := fun t => f_bits_test _ 8 t
        have flt := f_bits_lt (fun i => s.testBit i && !x.testBit i) 8
        refine inner _ _ N (Nat.le_refl _) (by omega) (fun t ht => ?_) q h85 hN' hlo (mf_rel_pr hrel (fun y h' t hs' => ⟨Or.inl, fun q2 => ?_⟩))
        · rw [ft t] at ht
          simp at ht
          exact ⟨ht.2.1, ht.2.2⟩
        · rcases q2 with q2 | ⟨q2, q3⟩
          · exact q2
          · have tn : t < n := by rw [← en]; exact hs'.2.1
            rw [ft t, decide_eq_true (show t < 8 by omega), hsb t tn, hs'.2.2.1, ← q2, hs'.2.2.2.1] at q3
            simp at q3
      · rw [zcmp_0.1, nx] at q
        refine on N h85 hN' hlo (mf_rel_pr hrel (fun y h' t hs' => ⟨fun q2 => by omega, fun q2 => ?_⟩))
        rcases Nat.lt_or_ge x h' with q3 | q3
        · exact q3
        · have e : h' = x := by omega
          have := hs'.2.2.2.2.2
          rw [e] at this
          omega
  -- whom it suits
  have suit : ∀ (k i : Nat) (N : zM), i + k = n → (∀ k, ¬ (k = 84 ∨ k = 85) → N k = μ k) → N 84 = μ 84 → (∀ t, t < i → mf_k P t j = true → N 85 (t : Int) = mf_wt P j t) → zT g d mX8_offerEngine K 5 [some (.inr (.inr ((0, 8), 78))), some (.inl (j : Int)), some (.inl pl), some (.inl ((f_bits (fun t => mf_k P t j) i : Nat) : Int)), some (.inl (i : Int)), none, none, none] [] N := by
    intro k
    induction k with
    | zero =>
      intro i N hi' hN' h84 h85
      obtain rfl : i = n := by omega
      have flt := f_bits_lt (fun t => mf_k P t j) i
      have fte : ∀ t, (f_bits (fun t => mf_k P t j) i).testBit t = (decide (t < i) && mf_k P t j) := fun t => f_bits_test _ i t
      have nb : ∀ h : Nat, N 84 (h : Int) = b h := fun h => by rw [h84, ← hbd]
      have tb := table (f_bits (fun t => mf_k P t j) i) N (by omega) (fun t ht => by rw [fte t, decide_eq_true ht, Bool.true_and]) (fun t ht => by rw [fte t, decide_eq_false (by omega), Bool.false_and]) h85 hN'
      have same : ∀ pr : Nat → Nat → Prop, (∀ h h' t, mf_st P j b h h' t → ¬ pr h' t) → mf_rel P j pr b (fun h => N 84 (h : Int)) := fun pr hno y hy => ⟨by simp only []; rw [nb y]; exact Int.le_refl _, fun h' t hp hs' => absurd hp (hno y h' t hs'), Or.inl (nb y)⟩
      refine sX8_offerEngine_5 ⟨fun _ => ⟨fun q => ?_, fun q => ?_⟩, fun q => by rw [hN' 78 (by omega), m78] at q; omega⟩
      · rw [hN' 78 (by omega), m78, zshl_1 (by omega), show ((i : Int)).toNat = i from by omega, zwi (x := ((2 ^ i : Nat) : Int) - 1) (by omega) (by omega)]
        exact tb (2 ^ i) N (Nat.le_refl _) h85 hN' (fun h _ => nb h) (same _ (fun y h' t hs' hp => by have := hs'.1; rw [en] at this; omega))
      · have := tb 1 N (by omega) h85 hN' (fun h _ => nb h) (same _ (fun y h' t hs' hp => ?_))
        · exact this
        · have z := fte t
          rw [show f_bits (fun t => mf_k P t j) i = 0 from by omega, Nat.zero_testBit, hs'.2.2.1, decide_eq_true (by have := hs'.2.1; rw [en] at this; exact this)] at z
          cases z
    | succ k ih =>
      intro i N hi' hN' h84 h85
      have i8 : i < 8 := by omega
      have vN : vC N 20 = Y := by
        rw [← hv]
        exact vC_off (by omega) hr (fun k hk => hN' k (by omega))
      have cNN : cN N X := hN.same (by rw [hN' 78 (by omega)]) (fun k _ _ => hN' k (by omega))
      have flt := f_bits_lt (fun t => mf_k P t j) i
      have fi8 : 2 ^ i < 2 ^ 8 := Nat.pow_lt_pow_right (by omega) i8
      have e82 : N 82 (i : Int) = X 7 (i : Int) := by rw [hN' 82 (by omega)]; exact hN.2.2.1 _ (by omega)
      obtain ⟨p1, p2, p3⟩ := pl_13 i i8
      have m1 : 0 ≤ ((j : Int) + 1) * zRo 1001 (i : Int) := Int.mul_nonneg (by omega) (by omega)
      have m2 : ((j : Int) + 1) * zRo 1001 (i : Int) ≤ 12 * 62748517 := Int.mul_le_mul (by omega) (by omega) (by omega) (by omega)
      refine sX8_offerEngine_5 ⟨fun q => by rw [hN' 78 (by omega), m78] at q; omega, fun _ => ⟨by omega, c_suits (X := X) (Y := Y) (by omega) (by rw [vN]; exact hW) cNN hi (by omega) (by omega) (fun f1 => zb1 ?_) (fun f1 => zb0 ?_)⟩⟩
      · rw [vN] at f1
        have kt : mf_k P i j = true := by rw [kk i]; exact f1
        have ezor : zor ((f_bits (fun t => mf_k P t j) i : Nat) : Int) (zshl 1 (i : Int)) = ((f_bits (fun t => mf_k P t j) (i + 1) : Nat) : Int) := by
          rw [zshl_1 (by omega), show ((i : Int)).toNat = i from by omega, zor_nat (by omega) (by omega), f_bits_or (fun t => mf_k P t j) i kt]
        rw [ezor, zw_suc (by omega), zwi (x := (j : Int) + 1) (by omega) (by omega), zxi (x := ((j : Int) + 1) * zRo 1001 (i : Int)) (by omega) (by omega)]
        have wti := ewt i
        rw [← p1, ep, ep] at wti
        -- its weight
        have fin : ∀ N2 : zM, (∀ k, ¬ k = 85 → N2 k = N k) → (∀ t : Int, ¬ t = (i : Int) → N2 85 t = N 85 t) → N2 85 (i : Int) = mf_wt P j i → zT g d mX8_offerEngine K 5 [some (.inr (.inr ((0, 8), 78))), some (.inl (j : Int)), some (.inl pl), some (.inl ((f_bits (fun t => mf_k P t j) (i + 1) : Nat) : Int)), some (.inl ((i + 1 : Nat) : Int)), none, none, none] [] N2 := by
          intro N2 a1 a2 a3
          refine ih (i + 1) N2 (by omega) (fun k hk => by rw [a1 k (by omega)]; exact hN' k hk) (by rw [a1 84 (by omega)]; exact h84) (fun t ht hk' => ?_)
          rcases Nat.lt_or_ge t i with q | q
          · rw [a2 (t : Int) (by omega)]
            exact h85 t q hk'
          · obtain rfl : t = i := by omega
            exact a3
        refine ⟨by omega, fun q => ?_, fun q => ⟨fun q2 => ⟨fun q3 => ?_, fun q3 => ?_⟩, fun q2 => ?_⟩⟩
        · rw [if_neg (fun hh => hh.1 q), if_neg (fun hh => hh.1 q)] at wti
          exact fin _ (fun k hk => zU_off k hk) (fun t ht => zU_ne (by omega)) (by rw [zU_eq]; omega)
        · rw [e82] at q2 q3
          rw [if_pos ⟨q, q3⟩, if_pos ⟨q, q2⟩] at wti
          exact fin _ (fun k hk => zU_off k hk) (fun t ht => zU_ne (by omega)) (by rw [zU_eq]; omega)
        · rw [e82] at q2 q3
          rw [if_neg (fun hh => hh.2 q3), if_pos ⟨q, q2⟩] at wti
          rw [zU_eq, zxi (x := ((j : Int) + 1) * zRo 1001 (i : Int) - 815730721) (by omega) (by omega)]
          exact fin _ (fun k hk => by rw [zU_off k hk, zU_off k hk]) (fun t ht => by rw [zU_ne (by omega), zU_ne (by omega)]) (by rw [zU_eq]; omega)
        · rw [e82] at q2
          rw [if_pos ⟨q, by omega⟩, if_neg (fun hh => hh.2 q2)] at wti
          rw [zU_eq, zxi (x := ((j : Int) + 1) * zRo 1001 (i : Int) + 815730721) (by omega) (by omega)]
          exact fin _ (fun k hk => by rw [zU_off k hk, zU_off k hk]) (fun t ht => by rw [zU_ne (by omega), zU_ne (by omega)]) (by rw [zU_eq]; omega)
      · rw [vN] at f1
        have kt : mf_k P i j = false := by rw [kk i]; exact f1
        rw [zw_suc (by omega)]
        have e1 : f_bits (fun t => mf_k P t j) (i + 1) = f_bits (fun t => mf_k P t j) i := f_bits_more (p := fun t => mf_k P t j) (n := i) 1 (fun t h1 h2 => by rw [show t = i from by omega]; exact kt)
        have := ih (i + 1) N (by omega) hN' h84 (fun t ht hk' => by
          rcases Nat.lt_or_ge t i with q | q
          · exact h85 t q hk'
          · obtain rfl : t = i := by omega
            rw [kt] at hk'
            cases hk')
        rw [e1] at this
        exact this
  exact sX8_offerEngine (suit n 0 μ (by omega) (fun _ _ => rfl) rfl (fun t ht => by omega))
end
