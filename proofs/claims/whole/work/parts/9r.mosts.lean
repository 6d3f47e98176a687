-- needs 9q
/-! most, fails: the class's calls -/
theorem su_app {F : Nat → Int} : ∀ (k m lo : Nat), su F (k + m) lo = su F k lo + su F m (lo + k)
  | 0, m, lo => by simp [su]
  | k + 1, m, lo => by
    rw [show k + 1 + m = (k + m) + 1 from by omega]
    show F lo + su F (k + m) (lo + 1) = F lo + su F k (lo + 1) + su F m (lo + (k + 1))
    rw [su_app k m (lo + 1), show lo + 1 + k = lo + (k + 1) from by omega]
    omega
theorem su_0 {F : Nat → Int} : ∀ (k lo : Nat), (∀ t, lo ≤ t → t < lo + k → F t = 0) → su F k lo = 0
  | 0, _, _ => rfl
  | k + 1, lo, h => by
    show F lo + su F k (lo + 1) = 0
    rw [h lo (by omega) (by omega), su_0 k (lo + 1) (fun t h1 h2 => h t (by omega) (by omega))]
    omega
/-- the digits of a code -/
theorem su_dig {D : Nat → Int} {p : Int} (hD : ∀ t, 0 ≤ D t ∧ D t ≤ 12) (hp : 0 ≤ p) : ∀ t : Nat, t < 8 → ((su (fun t => D t * (13 : Int) ^ (7 - t)) 8 0 + 815730721 * p) / zRo 1001 (t : Int)) % 13 = D t := by
  have e : su (fun t => D t * (13 : Int) ^ (7 - t)) 8 0 = D 0 * 62748517 + (D 1 * 4826809 + (D 2 * 371293 + (D 3 * 28561 + (D 4 * 2197 + (D 5 * 169 + (D 6 * 13 + (D 7 * 1 + 0))))))) := by
    simp only [su]
    rw [show (13 : Int) ^ (7 - 0) = 62748517 from by decide, show (13 : Int) ^ (7 - (0 + 1)) = 4826809 from by decide, show (13 : Int) ^ (7 - (0 + 1 + 1)) = 371293 from by decide, show (13 : Int) ^ (7 - (0 + 1 + 1 + 1)) = 28561 from by decide, show (13 : Int) ^ (7 - (0 + 1 + 1 + 1 + 1)) = 2197 from by decide, show (13 : Int) ^ (7 - (0 + 1 + 1 + 1 + 1 + 1)) = 169 from by decide, show (13 : Int) ^ (7 - (0 + 1 + 1 + 1 + 1 + 1 + 1)) = 13 from by decide, show (13 : Int) ^ (7 - (0 + 1 + 1 + 1 + 1 + 1 + 1 + 1)) = 1 from by decide]
  have d0 := hD 0
  have d1 := hD 1
  have d2 := hD 2
  have d3 := hD 3
  have d4 := hD 4
  have d5 := hD 5
  have d6 := hD 6
  have d7 := hD 7
  rw [e]
  intro t ht
  have : t = 0 ∨ t = 1 ∨ t = 2 ∨ t = 3 ∨ t = 4 ∨ t = 5 ∨ t = 6 ∨ t = 7 := by omega
  rcases this with rfl | rfl | rfl | rfl | rfl | rfl | rfl | rfl
  · rw [show zRo 1001 ((0 : Nat) : Int) = 62748517 from by decide]; omega
  · rw [show zRo 1001 ((1 : Nat) : Int) = 4826809 from by decide]; omega
  · rw [show zRo 1001 ((2 : Nat) : Int) = 371293 from by decide]; omega
  · rw [show zRo 1001 ((3 : Nat) : Int) = 28561 from by decide]; omega
  · rw [show zRo 1001 ((4 : Nat) : Int) = 2197 from by decide]; omega
  · rw [show zRo 1001 ((5 : Nat) : Int) = 169 from by decide]; omega
  · rw [show zRo 1001 ((6 : Nat) : Int) = 13 from by decide]; omega
  · rw [show zRo 1001 ((7 : Nat) : Int) = 1 from by decide]; omega
theorem mf_dig {P : zMf} {a : Nat → Int} (h8 : mf_n P ≤ 8) (hE : mf_E P ≤ 12) (hF : mf_F P (mf_E P) a) {t : Nat} (ht : t < mf_n P) : (mf_cost P a / zRo 1001 (t : Int)) % 13 = a t + 1 := by
  have dig : ∀ t, t < mf_n P → -1 ≤ a t ∧ a t ≤ 11 := fun t ht => by
    rcases hF.1 t ht with g | ⟨e, g1, g2, _⟩ <;> omega
  have := su_dig (D := fun t => if t < mf_n P then a t + 1 else 0) (p := mf_par P a) (fun t => by
    by_cases q : t < mf_n P
    · rw [if_pos q]
      have := dig t q
      omega
    · rw [if_neg q]
      omega) (mf_par_b P a).1 t (by omega)
  rw [show (8 : Nat) = mf_n P + (8 - mf_n P) from by omega, su_app, su_0 (8 - mf_n P) _ (fun t h1 h2 => by rw [if_neg (by omega), Int.zero_mul]), Int.add_zero] at this
  rw [su_congr (G := fun t => (a t + 1) * (13 : Int) ^ (7 - t)) (mf_n P) 0 (fun t _ h2 => by rw [if_pos (by omega)])] at this
  simp only [if_pos ht] at this
  rw [mf_cost_eq]
  exact this
section
variable {g : zG} {d : Nat} {K : Option zV → zM → Prop} {μ Y X : zM} {wo pl x nn : Int} {n E m s : Nat} {S : zS}
theorem c_fillL {x : Int} (hm : m < 1000000) (h : ∀ μ', (∀ j, ¬ j = s → μ' j = μ j) → (∀ i, 0 ≤ i ∧ i < (m : Int) → μ' s i = x) → K none μ') : zCall g d 284 [.inr (.inr ((4, m), s)), .inr (.inl x)] μ K := by
  refine sJ7_fill_d0a16 ?_
  have loop : ∀ (k i : Nat) (M : zM), i + k = m → (∀ j, ¬ j = s → M j = μ j) → (∀ q, 0 ≤ q ∧ q < (i : Int) → M s q = x) → zT g d mJ7_fill_d0a16 K 6 [some (.inr (.inr ((4, m), s))), some (.inr (.inl x)), none, some (.inl (i : Int)), some (.inl (m : Int))] [] M := by
    intro k
    induction k with
    | zero =>
      intro i M hi h1 h2
      obtain rfl : i = m := by omega
      exact sJ7_fill_d0a16_6 ⟨fun _ => h M h1 h2, fun q => by omega⟩
    | succ k ih =>
      intro i M hi h1 h2
      refine sJ7_fill_d0a16_6 ⟨fun q => by omega, fun q => ⟨by omega, ?_⟩⟩
      rw [zw_suc (by omega)]
      refine ih (i + 1) _ (by omega) (fun j hj => by rw [zU_off j hj]; exact h1 j hj) (fun q hq => ?_)
      by_cases q2 : q = (i : Int)
      · subst q2; rw [zU_eq]
      · rw [zU_ne (by omega)]; exact h2 q (by omega)
  exact loop m 0 μ (by omega) (fun _ _ => rfl) (fun q hq => by omega)
def zE84 (μ' μ : zM) : Prop := (∀ j, ¬ (j = 78 ∨ (84 ≤ j ∧ j ≤ 86)) → μ' j = μ j) ∧ ∀ i, ¬ i = 12 → μ' 78 i = μ 78 i
theorem c_bestRow (hd : 6 ≤ d) (hv : vC μ 20 = Y) (hW : y_W Y) (hN : cN μ X) (hi : iN Y X) (hr : zrl μ) (hn : X 8 0 = (n : Int)) (hE : Y 13 3 = (E : Int))
    (h : ∀ (μ' : zM) (a0 : Nat → Int) (c : Int), zE84 μ' μ → mf_sf n a0 n = mf_R (Y, X, wo, pl, n, E) n 0 → mf_W (Y, X, wo, pl, n, E) n 0 = 16 * c - mf_par (Y, X, wo, pl, n, E) a0 → 0 ≤ c → μ' 78 12 = mf_par (Y, X, wo, pl, n, E) a0 → (∀ t : Nat, t < n → μ' 86 (t : Int) = a0 t) → K (some (.inl c)) μ') : zCall g d 69 [.inr (.inr ((0, 8), 78)), .inl wo, .inl pl] μ K := by
  have w := hW.1
  have i1 := hi.1
  have n8 : n ≤ 8 := by omega
  have E12 : E ≤ 12 := by omega
  have p256 : 2 ^ n ≤ 2 ^ 8 := Nat.pow_le_pow_right (by omega) n8
  have pp := Nat.two_pow_pos n
  have m78 : μ 78 3 = (n : Int) := hN.1.trans hn
  have m5 : μ 5 0 = (E : Int) := by
    have : vC μ 20 13 3 = μ 5 0 := by simp only [vC]; rfl
    rw [← this, hv, hE]
  obtain ⟨P, hP⟩ : ∃ P : zMf, (Y, X, wo, pl, n, E) = P := ⟨_, rfl⟩
  have en : mf_n P = n := by rw [← hP]; rfl
  have eE : mf_E P = E := by rw [← hP]; rfl
  rw [hP] at h
  have ep : ∀ (t : Nat) (c : Int), mf_p P t c = if ¬ pl = 0 ∧ ¬ X 7 (t : Int) = c then 1 else 0 := fun t c => by rw [← hP]; rfl
  obtain ⟨a0, F0, s0, W0, c0, opt⟩ := mf_opt (P := P) (by rw [en]; exact n8) (by rw [eE]; exact E12)
  rw [en] at s0 W0
  rw [eE] at F0 opt
  -- what a row costs
  have Fup : ∀ (j : Nat) (a : Nat → Int), j ≤ E → mf_F P j a → mf_F P E a := fun j a hj ha => ⟨fun u hu => by
    rcases ha.1 u hu with q | ⟨e, q1, q2, q3⟩
    · exact Or.inl q
    · exact Or.inr ⟨e, by omega, q2, q3⟩, ha.2⟩
  have cost : ∀ (j : Nat) (a : Nat → Int), j ≤ E → mf_F P j a → 0 ≤ mf_cost P a ∧ mf_cost P a < 1152921504606846976 := fun j a hj ha => by
    have b := (opt a (Fup j a hj ha)).1
    have q := mf_par_b P a
    rw [en] at q
    rw [mf_cost_eq]
    omega
  have none0 : mf_F P 0 (fun _ => -1) := ⟨fun _ _ => Or.inl rfl, fun _ _ _ _ q => absurd rfl q⟩
  -- its bounds
  have bounds : ∀ (j : Nat) (b b' : Nat → Int), j ≤ E → mf_I P j b' → (∀ h, h < 2 ^ n → b' h ≤ b h) → (∀ h, h < 2 ^ n → b h ≤ 1152921504606846976) → ∀ h, h < 2 ^ n → 0 ≤ b' h ∧ b' h ≤ 1152921504606846976 := by
    intro j b b' hj hI h1 h2 y hy
    have := h1 y hy
    have := h2 y hy
    by_cases q : b' y < 1152921504606846976
    · obtain ⟨a, f1, f2, f3⟩ := hI.2 y (by rw [en]; exact hy) q
      have := cost j a hj f1
      omega
    · omega
  -- the row is read out of its number
  have read : ∀ (f : Nat) (N0 : zM), f < 256 → zE84 N0 μ → N0 84 (f : Int) = mf_cost P a0 → mf_cnt P a0 = (fr_c f 12 : Int) → (0 ≤ (f : Int) ∧ (f : Int) < 256) ∧ zT g d mX8_bestRow K 188 [some (.inr (.inr ((0, 8), 78))), none, none, some (.inl (f : Int)), some (.inl 0), none] [] (zU N0 78 12 (zw (zx (Int.tdiv (N0 84 (f : Int)) 815730721)))) := by
    intro f N0 hf hE0 hc hcnt
    have cb := cost E a0 (Nat.le_refl _) F0
    have pb := mf_par_b P a0
    rw [en] at pb
    have ce := mf_cost_eq P a0
    refine ⟨by omega, ?_⟩
    rw [hc, Int.tdiv_eq_ediv_of_nonneg cb.1, show mf_cost P a0 / 815730721 = mf_par P a0 from by omega, zxi (x := mf_par P a0) (by omega) (by omega), zwi (x := mf_par P a0) (by omega) (by omega)]
    have loop : ∀ (k i : Nat) (N : zM), i + k = n → zE84 N μ → N 84 = N0 84 → N 78 12 = mf_par P a0 → (∀ t : Nat, t < i → N 86 (t : Int) = a0 t) → zT g d mX8_bestRow K 188 [some (.inr (.inr ((0, 8), 78))), none, none, some (.inl (f : Int)), some (.inl (i : Int)), none] [] N := by
      intro k
      induction k with
      | zero =>
        intro i N hi' hEN h84 h12 h86
        obtain rfl : i = n := by omega
        refine sX8_bestRow_188 ⟨fun _ => ⟨by omega, j_bcn (by omega) (zi ?_)⟩, fun q => by rw [hEN.2 3 (by omega), m78] at q; omega⟩
        rw [← hcnt]
        exact h N a0 _ hEN s0 W0 (by rw [hcnt]; omega) h12 h86
      | succ k ih =>
        intro i N hi' hEN h84 h12 h86
        obtain ⟨p1, p2, p3⟩ := pl_13 i (by omega)
        have dg := mf_dig (P := P) (a := a0) (t := i) (by rw [en]; exact n8) (by rw [eE]; exact E12) (by rw [eE]; exact F0) (by rw [en]; omega)
        have ai : -1 ≤ a0 i ∧ a0 i ≤ 11 := by
          rcases F0.1 i (by rw [en]; omega) with q | ⟨e, q1, q2, _⟩ <;> omega
        refine sX8_bestRow_188 ⟨fun q => by rw [hEN.2 3 (by omega), m78] at q; omega, fun _ => ⟨by omega, by omega, by omega, ?_⟩⟩
        have q0 : 0 ≤ mf_cost P a0 / zRo 1001 (i : Int) := Int.ediv_nonneg cb.1 (by omega)
        have q1 : mf_cost P a0 / zRo 1001 (i : Int) ≤ mf_cost P a0 := Int.ediv_le_self _ cb.1
        rw [h84, hc, Int.tdiv_eq_ediv_of_nonneg cb.1, zxi (x := mf_cost P a0 / zRo 1001 (i : Int)) (by omega) (by omega), Int.tmod_eq_emod_of_nonneg q0, dg, zxi (x := a0 i + 1) (by omega) (by omega), zwi (x := a0 i + 1) (by omega) (by omega), zwi (x := a0 i + 1 - 1) (by omega) (by omega), zw_suc (by omega)]
        refine ih (i + 1) _ (by omega) ⟨fun j hj => by rw [zU_off j (by omega)]; exact hEN.1 j hj, fun k hk => by rw [zU_off 78 (by omega)]; exact hEN.2 k hk⟩ (by rw [zU_off 84 (by omega)]; exact h84) (by rw [zU_off 78 (by omega)]; exact h12) (fun t ht => ?_)
        by_cases q : t = i
        · subst q
          rw [zU_eq]
          omega
        · rw [zU_ne (by omega)]
          exact h86 t (by omega)
    refine loop n 0 _ (by omega) ⟨fun j hj => by rw [zU_off j (by omega)]; exact hE0.1 j hj, fun k hk => by rw [zU_ne (by omega)]; exact hE0.2 k hk⟩ (by rw [zU_off 84 (by omega)]) zU_eq (fun t ht => by omega)
  -- the best of the table
  have pick : ∀ N0 : zM, zE84 N0 μ → mf_I P E (fun h => N0 84 (h : Int)) → ∀ (k x f : Nat), x + k = 2 ^ n → 1 ≤ x → f < 2 ^ n → N0 84 (f : Int) < 1152921504606846976 → (∀ y : Nat, y < x → N0 84 (y : Int) < 1152921504606846976 → fr_c y 12 ≤ fr_c f 12 ∧ (fr_c y 12 = fr_c f 12 → N0 84 (f : Int) ≤ N0 84 (y : Int))) → zT g d mX8_bestRow K 97 [some (.inr (.inr ((0, 8), 78))), none, none, some (.inl (f : Int)), some (.inl (x : Int)), none] [] N0 := by
    intro N0 hE0 hI k
    have n78 : zshl 1 (N0 78 3) = ((2 ^ n : Nat) : Int) := by rw [hE0.2 3 (by omega), m78, zshl_1 (by omega), show ((n : Int)).toNat = n from by omega]
    induction k with
    | zero =>
      intro x f hx hx1 hf hfar hbest
      refine sX8_bestRow_97 ⟨fun _ => ?_, fun q => by rw [n78] at q; omega⟩
      -- the row of the reference
      have S0 : mf_S P a0 (f_bits (fun t => decide (¬ a0 t = -1)) n) := by
        refine ⟨by rw [en]; exact f_bits_lt _ n, fun t ht => ?_⟩
        rw [en] at ht
        rw [f_bits_test, decide_eq_true ht, Bool.true_and, decide_eq_true_eq]
      obtain ⟨y, hy⟩ : ∃ y, f_bits (fun t => decide (¬ a0 t = -1)) n = y := ⟨_, rfl⟩
      rw [hy] at S0
      have y2 : y < 2 ^ n := by rw [← en]; exact S0.1
      have by1 : N0 84 (y : Int) ≤ mf_cost P a0 := hI.1 a0 y F0 S0
      have cb := cost E a0 (Nat.le_refl _) F0
      have hb := hbest y (by omega) (by omega)
      have cy := mf_cnt_S S0 (by rw [en]; omega)
      obtain ⟨af, f1, f2, f3⟩ := hI.2 f (by rw [en]; exact hf) hfar
      have cf := mf_cnt_S f2 (by rw [en]; omega)
      have o := (opt af f1).2
      have f3 : mf_cost P af = N0 84 (f : Int) := f3
      have ce : mf_cnt P af = mf_cnt P a0 := by omega
      have := o.2 ce
      have := hb.2 (by omega)
      exact read f N0 (by omega) hE0 (by omega) (by omega)
    | succ k ih =>
      intro x f hx hx1 hf hfar hbest
      have next : ∀ f' : Nat, f' < 2 ^ n → N0 84 (f' : Int) < 1152921504606846976 → (∀ y : Nat, y < x + 1 → N0 84 (y : Int) < 1152921504606846976 → fr_c y 12 ≤ fr_c f' 12 ∧ (fr_c y 12 = fr_c f' 12 → N0 84 (f' : Int) ≤ N0 84 (y : Int))) → zT g d mX8_bestRow K 97 [some (.inr (.inr ((0, 8), 78))), none, none, some (.inl (f' : Int)), some (.inl (zw ((x : Int) + 1))), none] [] N0 := by
        intro f' a1 a2 a3
        rw [zw_suc (by omega)]
        exact ih (x + 1) f' (by omega) (by omega) a1 a2 a3
      refine sX8_bestRow_97 ⟨fun q => by rw [n78] at q; omega, fun _ => ⟨by omega, j_bcn (by omega) (zi (j_bcn (by omega) (zi ⟨by omega, ?_⟩)))⟩⟩
      have l1 := fr_c_le x 12
      have l2 := fr_c_le f 12
      rw [zcmp_0.1, zcmp_0.2, zcmp_0.1, zcmp_0.2, zwi (x := (fr_c x 12 : Int) - (fr_c f 12 : Int)) (by omega) (by omega)]
      have keep : (N0 84 (x : Int) < 1152921504606846976 → fr_c x 12 ≤ fr_c f 12 ∧ (fr_c x 12 = fr_c f 12 → N0 84 (f : Int) ≤ N0 84 (x : Int))) → ∀ y : Nat, y < x + 1 → N0 84 (y : Int) < 1152921504606846976 → fr_c y 12 ≤ fr_c f 12 ∧ (fr_c y 12 = fr_c f 12 → N0 84 (f : Int) ≤ N0 84 (y : Int)) := by
        intro hx' y hy hyf
        rcases Nat.lt_or_ge y x with q | q
        · exact hbest y q hyf
        · obtain rfl : y = x := by omega
          exact hx' hyf
      have take : N0 84 (x : Int) < 1152921504606846976 → (fr_c f 12 < fr_c x 12 ∨ (fr_c f 12 = fr_c x 12 ∧ N0 84 (x : Int) < N0 84 (f : Int))) → ∀ y : Nat, y < x + 1 → N0 84 (y : Int) < 1152921504606846976 → fr_c y 12 ≤ fr_c x 12 ∧ (fr_c y 12 = fr_c x 12 → N0 84 (x : Int) ≤ N0 84 (y : Int)) := by
        intro hx' hor y hy hyf
        rcases Nat.lt_or_ge y x with q | q
        · have := hbest y q hyf
          refine ⟨by omega, fun e => ?_⟩
          rcases hor with hor | hor
          · omega
          · have := this.2 (by omega)
            omega
        · obtain rfl : y = x := by omega
          exact ⟨Nat.le_refl _, fun _ => Int.le_refl _⟩
      refine ⟨fun q => next f hf hfar (keep (fun hh => by omega)), fun q => ⟨fun q2 => next x (by omega) q (take q (Or.inl (by omega))), fun q2 => ⟨fun q3 => next f hf hfar (keep (fun _ => ⟨by omega, fun e => by omega⟩)), fun q3 => ⟨by omega, fun q4 => next f hf hfar (keep (fun _ => ⟨by omega, fun _ => q4⟩)), fun q4 => next x (by omega) q (take q (Or.inr ⟨by omega, q4⟩))⟩⟩⟩⟩
  -- the engines
  have engs : ∀ (k j : Nat) (N : zM), j + k = E → (∀ i, ¬ (i = 84 ∨ i = 85) → N i = μ i) → mf_I P j (fun h => N 84 (h : Int)) → (∀ h : Nat, h < 2 ^ n → 0 ≤ N 84 (h : Int) ∧ N 84 (h : Int) ≤ 1152921504606846976) → zT g d mX8_bestRow K 61 [some (.inr (.inr ((0, 8), 78))), some (.inl wo), some (.inl pl), some (.inl (j : Int)), none, none] [] N := by
    intro k
    induction k with
    | zero =>
      intro j N hj hN' hI hb
      obtain rfl : j = E := by omega
      refine sX8_bestRow_61 ⟨fun _ => ?_, fun q => by rw [hN' 5 (by omega), m5] at q; omega⟩
      have S0 : mf_S P (fun _ => -1) 0 := ⟨by rw [en]; exact pp, fun t _ => by simp⟩
      have b0 : N 84 ((0 : Nat) : Int) ≤ mf_cost P (fun _ => -1) := hI.1 _ 0 (Fup 0 _ (by omega) none0) S0
      have c0' := cost 0 _ (by omega) none0
      refine pick N ⟨fun i hi' => hN' i (by omega), fun i _ => by rw [hN' 78 (by omega)]⟩ hI (2 ^ n - 1) 1 0 (by omega) (by omega) pp (by omega) (fun y hy _ => ?_)
      obtain rfl : y = 0 := by omega
      exact ⟨Nat.le_refl _, fun _ => Int.le_refl _⟩
    | succ k ih =>
      intro j N hj hN' hI hb
      have vN : vC N 20 = Y := by
        rw [← hv]
        exact vC_off (by omega) hr (fun i hi' => hN' i (by omega))
      have cNN : cN N X := hN.same (by rw [hN' 78 (by omega)]) (fun i _ _ => hN' i (by omega))
      have rN : zrl N := zrl_same hr (hN' 12 (by omega))
      refine sX8_bestRow_61 ⟨fun q => by rw [hN' 5 (by omega), m5] at q; omega, fun _ => ⟨fun q => ?_, fun q => ⟨by omega, ?_⟩⟩⟩
      · rw [zw_suc (by omega)]
        refine ih (j + 1) N (by omega) hN' (mf_I_skip hI (fun t => ?_)) hb
        rw [← hP]
        show (decide (¬ (j : Int) = wo) && _) = false
        rw [decide_eq_false (fun hh => hh q), Bool.false_and]
      · refine c_offerEngine (Y := Y) (X := X) (wo := wo) (n := n) (E := E) (by omega) vN hW cNN hi rN hn hE (by omega) q hb (fun M hM hrel => zn ?_)
        rw [hP] at hrel
        rw [zw_suc (by omega)]
        have hI2 := mf_I_step hI hrel (fun a ha => (cost j a (by omega) ha).2)
        exact ih (j + 1) M (by omega) (fun i hi' => by rw [hM i hi', hN' i hi']) hI2 (bounds (j + 1) _ _ (by omega) hI2 (fun y hy => (hrel y (by rw [en]; exact hy)).1) (fun y hy => (hb y hy).2))
  -- the plan
  have plan : ∀ (k i : Nat) (N : zM), i + k = n → (∀ j, ¬ j = 84 → N j = μ j) → (∀ h : Nat, h < 256 → ¬ h = 0 → N 84 (h : Int) = 1152921504606846976) → N 84 0 = su (fun t => 815730721 * mf_p P t (-1)) i 0 → zT g d mX8_bestRow K 19 [some (.inr (.inr ((0, 8), 78))), some (.inl wo), some (.inl pl), some (.inl (i : Int)), none, none] [] N := by
    intro k
    induction k with
    | zero =>
      intro i N hi' hN' hfar h0
      obtain rfl : i = n := by omega
      refine sX8_bestRow_19 ⟨fun _ => ?_, fun q => by rw [hN' 78 (by omega), m78] at q; omega⟩
      have ec : mf_cost P (fun _ => -1) = su (fun t => 815730721 * mf_p P t (-1)) i 0 := by
        unfold mf_cost
        rw [en]
        exact su_congr i 0 (fun t _ _ => by unfold mf_ct; rw [show (-1 : Int) + 1 = 0 from rfl, Int.zero_mul, Int.zero_add])
      have c0' := cost 0 _ (by omega) none0
      have z0 : ∀ y : Nat, y < 2 ^ i → (∀ t, t < i → y.testBit t = false) → y = 0 := by
        intro y hy hh
        apply Nat.eq_of_testBit_eq
        intro t
        rw [Nat.zero_testBit]
        rcases Nat.lt_or_ge t i with q | q
        · exact hh t q
        · exact Nat.testBit_lt_two_pow (Nat.lt_of_lt_of_le hy (Nat.pow_le_pow_right (n := 2) (by omega) q))
      have hI : mf_I P 0 (fun h => N 84 (h : Int)) := by
        refine ⟨fun a y ha hS => ?_, fun y hy hlt => ?_⟩
        · have an : ∀ t, t < i → a t = -1 := fun t ht => by
            rcases ha.1 t (by rw [en]; exact ht) with q | ⟨e, q1, _⟩
            · exact q
            · omega
          have y0 : y = 0 := z0 y (by rw [← en]; exact hS.1) (fun t ht => by
            cases hb : y.testBit t
            · rfl
            · exact absurd (an t ht) ((hS.2 t (by rw [en]; exact ht)).1 hb))
          have e2 : mf_cost P a = mf_cost P (fun _ => -1) := by
            unfold mf_cost
            rw [en]
            exact su_congr i 0 (fun t _ h2 => by rw [an t (by omega)])
          show N 84 (y : Int) ≤ mf_cost P a
          rw [y0, e2, ec, ← h0]
          exact Int.le_refl _
        · rw [en] at hy
          have y0 : y = 0 := by
            rcases Nat.eq_zero_or_pos y with q | q
            · exact q
            · have hlt : N 84 (y : Int) < 1152921504606846976 := hlt
              rw [hfar y (by omega) (by omega)] at hlt
              omega
          refine ⟨fun _ => -1, none0, ⟨by rw [en]; omega, fun t _ => by rw [y0]; simp⟩, ?_⟩
          show mf_cost P (fun _ => -1) = N 84 (y : Int)
          rw [y0, ec, ← h0]
          rfl
      refine engs E 0 N (by omega) (fun j hj => hN' j (by omega)) hI (fun y hy => ?_)
      rcases Nat.eq_zero_or_pos y with q | q
      · rw [q, show ((0 : Nat) : Int) = 0 from rfl, h0, ← ec]
        omega
      · rw [hfar y (by omega) (by omega)]
        omega
    | succ k ih =>
      intro i N hi' hN' hfar h0
      have e82 : N 82 (i : Int) = X 7 (i : Int) := by rw [hN' 82 (by omega)]; exact hN.2.2.1 _ (by omega)
      have sb := su_b (F := fun t => 815730721 * mf_p P t (-1)) (a := 0) (b := 815730721) i 0 (fun t _ _ => by have := mf_p_b P t (-1); omega)
      have es := su_snoc (F := fun t => 815730721 * mf_p P t (-1)) i 0
      rw [Nat.zero_add] at es
      have sbi : (815730721 : Int) * (i : Int) ≤ 815730721 * 8 := Int.mul_le_mul_of_nonneg_left (by omega) (by omega)
      refine sX8_bestRow_19 ⟨fun q => by rw [hN' 78 (by omega), m78] at q; omega, fun _ => ⟨fun q => ?_, fun q => ⟨by omega, fun q2 => ?_, fun q2 => ?_⟩⟩⟩
      · rw [zw_suc (by omega)]
        refine ih (i + 1) N (by omega) hN' hfar ?_
        rw [h0, es, ep, if_neg (fun hh => hh.1 q)]
        omega
      · rw [e82] at q2
        rw [zw_suc (by omega)]
        refine ih (i + 1) N (by omega) hN' hfar ?_
        rw [h0, es, ep, if_neg (fun hh => hh.2 q2)]
        omega
      · rw [e82] at q2
        rw [zw_suc (by omega), h0, zxi (x := su (fun t => 815730721 * mf_p P t (-1)) i 0 + 815730721) (by omega) (by omega)]
        refine ih (i + 1) _ (by omega) (fun j hj => by rw [zU_off j hj]; exact hN' j hj) (fun y hy hy0 => by rw [zU_ne (by omega)]; exact hfar y hy hy0) ?_
        rw [zU_eq, es, ep, if_pos ⟨q, q2⟩]
        omega
  refine sX8_bestRow ⟨by omega, c_fillL (by omega) (fun M hM hfar => zn ?_)⟩
  exact plan n 0 _ (by omega) (fun j hj => by rw [zU_off j hj]; exact hM j hj) (fun y hy hy0 => by rw [zU_ne (by omega)]; exact hfar _ (by omega)) zU_eq
theorem c_tellChosen {a0 : Nat → Int} {pre : List Int} (hd : 2 ≤ d) (hn8 : n ≤ 8) (h78 : μ 78 3 = (n : Int)) (h86 : ∀ t : Nat, t < n → μ 86 (t : Int) = a0 t) (hr : cR μ pre) (hp : pre.length ≤ 1) (h : ∀ μ', zE18 μ' μ → cR μ' (pre ++ mf_sf n a0 n) → K none μ') : zCall g d 71 [.inr (.inr ((0, 8), 78))] μ K := by
  refine sX8_tellChosen ?_
  have loop : ∀ (k i : Nat) (N : zM) (r : List Int), i + k = n → zE18 N μ → cR N r → r.length ≤ 1 + i → pre ++ mf_sf n a0 n = r ++ mf_sf n a0 k → zT g d mX8_tellChosen K 2 [some (.inr (.inr ((0, 8), 78))), some (.inl (i : Int))] [] N := by
    intro k
    induction k with
    | zero =>
      intro i N r hi hN hrN hl he
      have he : pre ++ mf_sf n a0 n = r ++ [] := he
      rw [List.append_nil] at he
      exact sX8_tellChosen_2 ⟨fun _ => h N hN (by rw [he]; exact hrN), fun q => by rw [hN 78 (by omega), h78] at q; omega⟩
    | succ k ih =>
      intro i N r hi hN hrN hl he
      refine sX8_tellChosen_2 ⟨fun q => by rw [hN 78 (by omega), h78] at q; omega, fun _ => ⟨by omega, by omega, c_tellR hrN (by omega) (fun Q hQ hrQ => zn ?_)⟩⟩
      rw [zw_suc (by omega)]
      rw [hN 86 (by omega), h86 i (by omega)] at hrQ
      refine ih (i + 1) Q (r ++ [a0 i]) (by omega) (fun j hj => by rw [hQ j hj, hN j hj]) hrQ (by simp; omega) ?_
      rw [he, List.append_assoc]
      show r ++ (a0 (n - (k + 1)) :: mf_sf n a0 k) = _
      rw [show n - (k + 1) = i from by omega]
      rfl
  exact loop n 0 μ pre (by omega) (fun _ _ => rfl) hr (by omega) rfl
theorem cS.e84 {μ' : zM} (hC : cS μ S) (e : zE84 μ' μ) : cS μ' S := by
  obtain ⟨h1, h2, h3, h4, h5, h6, h7⟩ := hC
  exact ⟨h1.same (fun j hj => e.1 j (by omega)), h2.same (by rw [e.1 12 (by omega)]) (e.1 13 (by omega)), h3.same (by rw [e.1 18 (by omega)]) (e.1 19 (by omega)), h4.same (by rw [e.1 62 (by omega)]) (by rw [e.1 62 (by omega)]) (e.1 63 (by omega)) (e.1 64 (by omega)), h5.same (e.1 71 (by omega)) (e.1 72 (by omega)) (e.1 10 (by omega)) (e.1 11 (by omega)), h6.same (e.2 3 (by omega)) (fun j _ _ => e.1 j (by omega)), h7.same (by rw [e.1 0 (by omega)]) (fun j _ _ => e.1 j (by omega))⟩
theorem C_most (hd : 10 ≤ d) (hC : cS μ S) (hI : iS nn S) (h : ∀ μ', zEc μ' μ → cS μ' (o_most S).2 → K (some (.inl (o_most S).1)) μ') : zCall g d 144 [.inr (.inr ((0, 11), 0))] μ K := by
  have iN' : iN S.1 (zX S) := hI.2.2.2.2.2.2.1
  have w := hI.env
  have hN : cN μ (zX S) := hC.2.2.2.2.2.1
  unfold o_most at h
  obtain ⟨n, en⟩ : ∃ n : Nat, zX S 8 0 = (n : Int) := ⟨(zX S 8 0).toNat, by have := iN'.1; omega⟩
  obtain ⟨E, eE⟩ : ∃ E : Nat, S.1 13 3 = (E : Int) := ⟨(S.1 13 3).toNat, by omega⟩
  have n8 : n ≤ 8 := by have := iN'.1; omega
  rw [en, eE, show ((n : Int)).toNat = n from by omega, show ((E : Int)).toNat = E from by omega] at h
  refine sX11_most ⟨by omega, c_bestRow (wo := -1) (pl := 0) (by omega) hC.1.1 hI.W hN iN' hC.1.2.1 en eE (fun M a0 c hM hs hW hc h12 h86 => zi (c_emptyR (fun P hP hr => zn ?_)))⟩
  have par0 : mf_par (S.1, zX S, -1, 0, n, E) a0 = 0 := by
    unfold mf_par
    refine su_0 _ 0 (fun t _ _ => ?_)
    unfold mf_p
    exact if_neg (fun hh => hh.1 rfl)
  rw [par0] at hW
  have hCM := hC.e84 hM
  refine c_tellChosen (n := n) (a0 := a0) (by omega) n8 (by rw [hP 78 (by omega), hM.2 3 (by omega)]; exact hN.1.trans en) (fun t ht => by rw [hP 86 (by omega)]; exact h86 t ht) hr (by simp) (fun Q hQ hrQ => zn ?_)
  rw [List.nil_append, hs] at hrQ
  have := h Q (fun j hj => by rw [hQ j (by omega), hP j (by omega), hM.1 j (by omega)]) (hCM.row (fun j _ hj => by rw [hQ j hj, hP j hj]) hrQ)
  rw [hW, show 16 * c - 0 = 16 * c from by omega, Int.tdiv_eq_ediv_of_nonneg (by omega), show 16 * c / 16 = c from by omega] at this
  exact this
theorem C_fails (hd : 10 ≤ d) (hC : cS μ S) (hI : iS nn S) (h : ∀ μ', zEc μ' μ → cS μ' (o_fails S x).2 → K (some (.inl (o_fails S x).1)) μ') : zCall g d 145 [.inr (.inr ((0, 11), 0)), .inl x] μ K := by
  have iN' : iN S.1 (zX S) := hI.2.2.2.2.2.2.1
  have w := hI.env
  have ev := hC.env
  have hN : cN μ (zX S) := hC.2.2.2.2.2.1
  unfold o_fails at h
  obtain ⟨n, en⟩ : ∃ n : Nat, zX S 8 0 = (n : Int) := ⟨(zX S 8 0).toNat, by have := iN'.1; omega⟩
  obtain ⟨E, eE⟩ : ∃ E : Nat, S.1 13 3 = (E : Int) := ⟨(S.1 13 3).toNat, by omega⟩
  have n8 : n ≤ 8 := by have := iN'.1; omega
  rw [en, show ((n : Int)).toNat = n from by omega] at h
  refine sX11_fails ⟨by omega, c_has (fun q => zb1 ?_) (fun q => zb0 ?_)⟩
  · have q' : 0 ≤ x ∧ x < S.1 13 3 := by omega
    rw [if_pos q', eE, show ((E : Int)).toNat = E from by omega] at h
    refine c_bestRow (wo := x) (pl := 1) (by omega) hC.1.1 hI.W hN iN' hC.1.2.1 en eE (fun M a0 c hM hs hW hc h12 h86 => zi (c_tellOneR (by omega) (fun P hP hr => zn ?_)))
    have pb := mf_par_b (S.1, zX S, x, 1, n, E) a0
    have pb2 : mf_par (S.1, zX S, x, 1, n, E) a0 ≤ (n : Int) := pb.2
    have hCM := hC.e84 hM
    refine c_tellChosen (n := n) (a0 := a0) (by omega) n8 (by rw [hP 78 (by omega), hM.2 3 (by omega)]; exact hN.1.trans en) (fun t ht => by rw [hP 86 (by omega)]; exact h86 t ht) hr (by simp) (fun Q hQ hrQ => zn ?_)
    rw [hs] at hrQ
    have e12 : Q 78 12 = mf_par (S.1, zX S, x, 1, n, E) a0 := by rw [hQ 78 (by omega), hP 78 (by omega)]; exact h12
    have td : Int.tdiv (mf_W (S.1, zX S, x, 1, n, E) n 0 + 15) 16 = c := by
      rw [hW, Int.tdiv_eq_ediv_of_nonneg (by omega)]
      omega
    rw [td] at h
    rw [e12]
    have := h Q (fun j hj => by rw [hQ j (by omega), hP j (by omega), hM.1 j (by omega)]) (hCM.row (fun j _ hj => by rw [hQ j hj, hP j hj]) hrQ)
    rw [hW, show 16 * c - (16 * c - mf_par (S.1, zX S, x, 1, n, E) a0) = mf_par (S.1, zX S, x, 1, n, E) a0 from by omega] at this
    exact this
  · rw [if_neg (fun hh => q (by omega))] at h
    exact h μ (zEc.refl μ) hC
end
