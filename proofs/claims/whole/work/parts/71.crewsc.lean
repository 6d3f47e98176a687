-- needs 70
/-! crews: the class -/
theorem cr_lp_s {T : Int → Option (Int → Int)} {c : Nat} {m : Int} {r : Int → Int} (h : T m = some r) : cr_lp T (c + 1) m = some r := by
  simp only [cr_lp, h]
theorem cr_lp_n {T : Int → Option (Int → Int)} {c : Nat} {m : Int} (h : T m = none) : cr_lp T (c + 1) m = cr_lp T c (m + 1) := by
  simp only [cr_lp, h]
def cr_msk (f : Int → Int) (m : Int) (t : Nat) : Nat := f_bits (fun o => decide (f (o : Int) = m)) t
def cr_cl (X : zM) (rest duty : Int) (n t : Nat) : Nat := f_bits (fun o => decide (¬ o = t) && !cr_two X rest duty (t : Int) (o : Int)) n
theorem f_bits_256 (p : Nat → Bool) {n : Nat} (hn : n ≤ 8) : f_bits p n < 256 := by
  have := f_bits_lt p n
  have h2 : 2 ^ n ≤ 2 ^ 8 := Nat.pow_le_pow_right (by omega) hn
  omega
theorem cr_ok_iff {X : zM} {rest duty : Int} {f : Int → Int} {t : Nat} {m : Int} : ∀ o : Nat, cr_ok X rest duty f t m o = true ↔ ∀ i : Nat, i < o → f (i : Int) = m → cr_two X rest duty (i : Int) (t : Int) = true
  | 0 => ⟨fun _ i hi => by omega, fun _ => rfl⟩
  | o + 1 => by
    have ih := cr_ok_iff (X := X) (rest := rest) (duty := duty) (f := f) (t := t) (m := m) o
    simp only [cr_ok, Bool.and_eq_true, Bool.or_eq_true, decide_eq_true_eq]
    constructor
    · rintro ⟨h1, h2⟩ i hi hf
      by_cases q : i = o
      · subst q
        rcases h2 with h2 | h2
        · exact absurd hf h2
        · exact h2
      · exact ih.1 h1 i (by omega) hf
    · intro h
      refine ⟨ih.2 (fun i hi hf => h i (by omega) hf), ?_⟩
      by_cases q : f (o : Int) = m
      · exact Or.inr (h o (by omega) q)
      · exact Or.inl q
theorem cr_and {Y X : zM} {rest duty : Int} {f : Int → Int} {t n : Nat} {m : Int} (hi : iN Y X) (hn : X 8 0 = (n : Int)) (ht : t < n) (hr : 0 ≤ rest) : zand (cr_msk f m t : Int) (cr_cl X rest duty n t : Int) = 0 ↔ cr_ok X rest duty f t m t = true := by
  have i8 := hi.1
  have b1 := f_bits_256 (fun o => decide (f (o : Int) = m)) (n := t) (by omega)
  have b2 := f_bits_256 (fun o => decide (¬ o = t) && !cr_two X rest duty (t : Int) (o : Int)) (n := n) (by omega)
  have b1 : cr_msk f m t < 256 := b1
  have b2 : cr_cl X rest duty n t < 256 := b2
  rw [zand_nat (by omega) (by omega), cr_ok_iff]
  have hz : ((cr_msk f m t &&& cr_cl X rest duty n t : Nat) : Int) = 0 ↔ cr_msk f m t &&& cr_cl X rest duty n t = 0 := by omega
  rw [hz]
  constructor
  · intro h i hi2 hf
    have := congrArg (fun z => Nat.testBit z i) h
    simp only [Nat.testBit_and, Nat.zero_testBit] at this
    unfold cr_msk cr_cl at this
    rw [f_bits_test, f_bits_test] at this
    simp [hi2, hf, show i < n from by omega, show ¬ i = t from by omega] at this
    rw [cr_two_c hr (by have := (hi.2.1 (i : Int) (by omega)).1; omega) (by have := (hi.2.1 (t : Int) (by omega)).1; omega)]
    exact this
  · intro h
    apply Nat.eq_of_testBit_eq
    intro i
    rw [Nat.testBit_and, Nat.zero_testBit]
    unfold cr_msk cr_cl
    rw [f_bits_test, f_bits_test]
    by_cases q : i < t
    · by_cases q2 : f (i : Int) = m
      · have := h i q q2
        rw [cr_two_c hr (by have := (hi.2.1 (i : Int) (by omega)).1; omega) (by have := (hi.2.1 (t : Int) (by omega)).1; omega)] at this
        simp [this]
      · simp [q2]
    · simp [q]
theorem cr_set {f : Int → Int} {t : Nat} {m : Int} (ht : t < 8) : zor (cr_msk f m t : Int) (zshl 1 (t : Int)) = (cr_msk (cr_up f t m) m (t + 1) : Int) := by
  have e : cr_msk f m t = f_bits (fun o => decide (cr_up f t m (o : Int) = m)) t := f_bits_ext (fun i hi => by
    unfold cr_up
    rw [if_neg (by omega)])
  rw [e]
  exact z_or_bit (by omega) (by simp [cr_up])
theorem cr_oth {f : Int → Int} {t : Nat} {m m' : Int} (h : ¬ m' = m) : cr_msk (cr_up f t m) m' (t + 1) = cr_msk f m' t := by
  unfold cr_msk
  rw [← z_no_bit (p := fun o => decide (cr_up f t m (o : Int) = m')) (n := t) (by simp [cr_up]; exact fun hh => h hh.symm)]
  exact f_bits_ext (fun i hi => by
    unfold cr_up
    rw [if_neg (by omega)])
theorem cr_rst {f : Int → Int} {t : Nat} {m : Int} (ht : t < 8) : zand (cr_msk (cr_up f t m) m (t + 1) : Int) (zxor (zshl 1 (t : Int)) (-1)) = (cr_msk f m t : Int) := by
  have b1 := f_bits_256 (fun o => decide (f (o : Int) = m)) (n := t) (by omega)
  have b1 : cr_msk f m t < 256 := b1
  refine zb_ext (zI32_and _ _) (zI32_nat (by omega)) (fun i hi => ?_)
  rw [zbit_and, zbit_not _ _ hi, zbit_nat _ _ hi, zbit_nat _ _ hi, zbit_shl (by omega) i hi]
  unfold cr_msk
  rw [f_bits_test, f_bits_test]
  by_cases q : i = t
  · subst q; simp
  · have h1 : ¬ ((t : Int)).toNat = i := by omega
    have h2 : (i < t + 1) ↔ (i < t) := by omega
    have h3 : ¬ (i : Int) = (t : Int) := by omega
    have h4 : ¬ t = i := by omega
    simp [h2, h3, h4, cr_up]
section
variable {g : zG} {d : Nat} {K : Option zV → zM → Prop} {μ μ' Y X N : zM} {s m i n k j : Nat} {r : List Int} {S : zS} {co : Int → Int} {cn nn x y z b v e p t f st w rest duty men : Int}
theorem c_canCrew (hi : iN Y X) (hn : X 8 0 = (n : Int)) (hr : 0 ≤ rest) (hmen : 0 ≤ men ∧ men ≤ 8) (haw : ∀ i : Nat, i < n → X 6 (i : Int) ≤ duty) : ∀ (a : Nat) (d : Nat) (t : Nat) (used : Int) (f : Int → Int) (μ : zM) (K : Option zV → zM → Prop), a + 1 ≤ d → t + a = n → (0 ≤ used ∧ used ≤ 8) → μ 78 3 = (n : Int) → (∀ i : Nat, i < n → μ 89 (i : Int) = (cr_cl X rest duty n i : Int)) → (∀ m, 0 ≤ m ∧ m < 8 → μ 88 m = (cr_msk f m t : Int)) → (∀ i : Nat, i < t → μ 87 (i : Int) = f (i : Int)) →
    (∀ r M, cr_go X rest duty men a t used f = some r → (∀ j, ¬ (j = 87 ∨ j = 88) → M j = μ j) → (∀ m, 0 ≤ m ∧ m < 8 → M 88 m = μ 88 m) → (∀ i : Nat, i < n → M 87 (i : Int) = r (i : Int)) → K (some (.inl 1)) M) →
    (∀ M, cr_go X rest duty men a t used f = none → (∀ j, ¬ (j = 87 ∨ j = 88) → M j = μ j) → (∀ m, 0 ≤ m ∧ m < 8 → M 88 m = μ 88 m) → (∀ i : Nat, i < t → M 87 (i : Int) = f (i : Int)) → K (some (.inl 0)) M) → zCall g d 76 [.inr (.inr ((0, 8), 78)), .inl (t : Int), .inl used, .inl men] μ K := by
  have i8 := hi.1
  intro a
  induction a with
  | zero =>
    intro d t used f μ K hd ht hu h78 h89 h88 h87 h1 h0
    refine sX8_canCrew ⟨fun q => by omega, fun q => ?_⟩
    exact h1 f μ rfl (fun _ _ => rfl) (fun _ _ => rfl) (fun i hi => h87 i (by omega))
  | succ a ih =>
    intro d t used f μ K hd ht hu h78 h89 h88 h87 h1 h0
    refine sX8_canCrew ⟨fun q => ?_, fun q => by omega⟩
    obtain ⟨T, hT⟩ : ∃ T : Int → Option (Int → Int), T = (fun m => if (decide (X 6 (t : Int) ≤ duty) && cr_ok X rest duty f t m t) = true then cr_go X rest duty men a (t + 1) (max used (m + 1)) (cr_up f t m) else none) := ⟨_, rfl⟩
    have hgo : cr_go X rest duty men (a + 1) t used f = cr_lp T (min (used + 1) men).toNat 0 := by rw [hT]; rfl
    have hTm : ∀ m, T m = if cr_ok X rest duty f t m t = true then cr_go X rest duty men a (t + 1) (max used (m + 1)) (cr_up f t m) else none := by
      intro m
      rw [hT]
      simp only [decide_eq_true (haw t (by omega)), Bool.true_and]
    rw [hgo] at h1 h0
    clear hT hgo
    have lp : ∀ (c m : Nat) (M : zM), m + c = (min (used + 1) men).toNat → (∀ j, ¬ (j = 87 ∨ j = 88) → M j = μ j) → (∀ m, 0 ≤ m ∧ m < 8 → M 88 m = μ 88 m) → (∀ i : Nat, i < t → M 87 (i : Int) = f (i : Int)) → (∀ r M, cr_lp T c (m : Int) = some r → (∀ j, ¬ (j = 87 ∨ j = 88) → M j = μ j) → (∀ m, 0 ≤ m ∧ m < 8 → M 88 m = μ 88 m) → (∀ i : Nat, i < n → M 87 (i : Int) = r (i : Int)) → K (some (.inl 1)) M) → (∀ M, cr_lp T c (m : Int) = none → (∀ j, ¬ (j = 87 ∨ j = 88) → M j = μ j) → (∀ m, 0 ≤ m ∧ m < 8 → M 88 m = μ 88 m) → (∀ i : Nat, i < t → M 87 (i : Int) = f (i : Int)) → K (some (.inl 0)) M) → zT g d mX8_canCrew K 13 [some (.inr (.inr ((0, 8), 78))), some (.inl (t : Int)), some (.inl used), some (.inl men), some (.inl (m : Int)), none] [] M := by
      intro c
      induction c with
      | zero =>
        intro m M hm hM hM8 hM7 k1 k0
        have fin := k0 M rfl hM hM8 hM7
        exact sX8_canCrew_13 ⟨fun _ => fin, fun _ => ⟨fun _ => fin, fun _ => by omega⟩⟩
      | succ c ihc =>
        intro m M hm hM hM8 hM7 k1 k0
        have hm8 : (m : Int) < 8 := by omega
        have e88 : M 88 (m : Int) = (cr_msk f (m : Int) t : Int) := by rw [hM8 _ (by omega), h88 _ (by omega)]
        have e89 : M 89 (t : Int) = (cr_cl X rest duty n t : Int) := by rw [hM 89 (by omega), h89 t (by omega)]
        have ca := cr_and (Y := Y) (X := X) (rest := rest) (duty := duty) (f := f) (t := t) (n := n) (m := (m : Int)) hi hn (by omega) hr
        refine sX8_canCrew_13 ⟨fun _ => by omega, fun _ => ⟨fun _ => by omega, fun _ => ⟨by omega, by omega, ?_⟩⟩⟩
        rw [e88, e89]
        refine ⟨fun q5 => ?_, fun q5 => ⟨by omega, ?_⟩⟩
        · have tn : T (m : Int) = none := by rw [hTm, if_neg (fun hh => q5 (ca.2 hh))]
          rw [cr_lp_n tn] at k1 k0
          rw [zw_suc (by omega)]
          exact ihc (m + 1) M (by omega) hM hM8 hM7 k1 k0
        · have tm : T (m : Int) = cr_go X rest duty men a (t + 1) (max used ((m : Int) + 1)) (cr_up f t (m : Int)) := by rw [hTm, if_pos (ca.1 q5)]
          rw [cr_set (f := f) (t := t) (m := (m : Int)) (by omega), zw_suc (i := t) (by omega), zw_suc (i := m) (by omega)]
          obtain ⟨f', hf'⟩ : ∃ f', cr_up f t (m : Int) = f' := ⟨_, rfl⟩
          have P88 : ∀ m', 0 ≤ m' ∧ m' < 8 → zU (zU M 87 (t : Int) (m : Int)) 88 (m : Int) (cr_msk (cr_up f t (m : Int)) (m : Int) (t + 1) : Int) 88 m' = (cr_msk f' m' (t + 1) : Int) := by
            intro m' hm'
            by_cases q6 : m' = (m : Int)
            · subst q6; rw [zU_eq, hf']
            · rw [zU_ne (by omega), zU_off 88 (by omega), hM8 _ hm', h88 _ hm', ← hf', cr_oth q6]
          have back : ∀ N : zM, (∀ j, ¬ (j = 87 ∨ j = 88) → N j = zU (zU M 87 (t : Int) (m : Int)) 88 (m : Int) (cr_msk (cr_up f t (m : Int)) (m : Int) (t + 1) : Int) j) → (∀ m', 0 ≤ m' ∧ m' < 8 → N 88 m' = zU (zU M 87 (t : Int) (m : Int)) 88 (m : Int) (cr_msk (cr_up f t (m : Int)) (m : Int) (t + 1) : Int) 88 m') → (∀ j, ¬ (j = 87 ∨ j = 88) → zU N 88 (m : Int) (zand (N 88 (m : Int)) (zxor (zshl 1 (t : Int)) (-1))) j = μ j) ∧ (∀ m', 0 ≤ m' ∧ m' < 8 → zU N 88 (m : Int) (zand (N 88 (m : Int)) (zxor (zshl 1 (t : Int)) (-1))) 88 m' = μ 88 m') := by
            intro N hN1 hN2
            refine ⟨fun j hj => by rw [zU_off j (by omega), hN1 j hj, zU_off j (by omega), zU_off j (by omega), hM j hj], fun m' hm' => ?_⟩
            by_cases q6 : m' = (m : Int)
            · subst q6
              rw [zU_eq, hN2 _ (by omega), zU_eq, cr_rst (by omega), h88 _ (by omega)]
            · rw [zU_ne (by omega), hN2 _ hm', zU_ne (by omega), zU_off 88 (by omega), hM8 _ hm']
          refine ih (d - 1) (t + 1) (max used ((m + 1 : Nat) : Int)) f' _ _ (by omega) (by omega) (by omega) (by rw [zU_off 78 (by omega), zU_off 78 (by omega), hM 78 (by omega), h78]) (fun i hi2 => by rw [zU_off 89 (by omega), zU_off 89 (by omega), hM 89 (by omega), h89 i hi2]) P88 (fun i hi2 => ?_) (fun r N hg hN1 hN2 hN3 => zb1 ?_) (fun N hg hN1 hN2 hN3 => zb0 ?_)
          · rw [zU_off 87 (by omega), ← hf']
            unfold cr_up
            by_cases q6 : i = t
            · subst q6; rw [zU_eq, if_pos rfl]
            · rw [zU_ne (by omega), if_neg (by omega)]
              exact hM7 i (by omega)
          · rw [← hf', show ((m + 1 : Nat) : Int) = (m : Int) + 1 from by omega, ← tm] at hg
            obtain ⟨b1, b2⟩ := back N hN1 hN2
            refine k1 r _ (cr_lp_s hg) b1 b2 (fun i hi2 => by rw [zU_off 87 (by omega)]; exact hN3 i hi2)
          · rw [← hf', show ((m + 1 : Nat) : Int) = (m : Int) + 1 from by omega, ← tm] at hg
            obtain ⟨b1, b2⟩ := back N hN1 hN2
            rw [cr_lp_n hg] at k1 k0
            refine ihc (m + 1) _ (by omega) b1 b2 (fun i hi2 => ?_) k1 k0
            rw [zU_off 87 (by omega), hN3 i (by omega), ← hf']
            unfold cr_up
            rw [if_neg (by omega)]
    exact lp (min (used + 1) men).toNat 0 μ (by omega) (fun _ _ => rfl) (fun _ _ => rfl) h87 h1 h0
theorem C_crews (hd : 15 ≤ d) (hC : cS μ S) (hI : iS nn S) (h : ∀ μ', zEc μ' μ → cS μ' (o_crews S rest duty).2 → K (some (.inl (o_crews S rest duty).1)) μ') : zCall g d 149 [.inr (.inr ((0, 11), 0)), .inl rest, .inl duty] μ K := by
  have hi : iN S.1 (zX S) := hI.2.2.2.2.2.2.1
  have i8 := hi.1
  unfold o_crews at h
  have no : ¬ ((0 ≤ rest ∧ rest ≤ 600) ∧ 1 ≤ duty ∧ duty ≤ 2000) → K (some (.inl (-1))) μ := by
    intro q
    rw [if_neg q] at h
    exact h μ (zEc.refl μ) hC
  refine sX11_crews ⟨fun _ => no (by omega), fun _ => ⟨fun _ => no (by omega), fun _ => ⟨fun _ => no (by omega), fun _ => ⟨fun _ => ⟨by omega, sX8_fewestCrews ?_⟩, fun _ => no (by omega)⟩⟩⟩⟩
  rw [if_pos (by omega)] at h
  obtain ⟨n, hn⟩ : ∃ n : Nat, zX S 8 0 = (n : Int) := ⟨(zX S 8 0).toNat, by omega⟩
  have hn2 : (zX S 8 0).toNat = n := by omega
  rw [hn2] at h
  have hcs : ∀ M : zM, (∀ j, ¬ (j = 87 ∨ j = 88 ∨ j = 89) → M j = μ j) → cS M S := fun M hM => hC.scr (fun j hj => hM j (by unfold z_scr at hj; omega))
  -- telling
  have tell : ∀ (q : Nat × (Int → Int)) (M : zM), cr_m (zX S) rest duty n (n + 1) 0 = some q → (∀ j, ¬ (j = 87 ∨ j = 88 ∨ j = 89) → M j = μ j) → (∀ i : Nat, i < n → M 87 (i : Int) = q.2 (i : Int)) → zCall g (d - 1 - 1) 42 [.inr (.inr ((0, 5), 18))] M (zNn fun μ1 => zT g (d - 1) mX8_fewestCrews (zIi fun r2 μ1 => K (some (.inl r2)) μ1) 145 [some (.inr (.inr ((0, 8), 78))), none, none, some (.inl (q.1 : Int)), some (.inl 0)] [] μ1) := by
    intro q M hq hM h87
    rw [hq] at h
    simp only [] at h
    have hCM := hcs M hM
    have n1 : M 78 3 = zX S 8 0 := hCM.2.2.2.2.2.1.1
    refine c_emptyR (fun M0 hM0 hr0 => zn ?_)
    have lp : ∀ (a j : Nat) (N : zM), j + a = n → zE18 N M → cR N ((List.range j).map (fun t : Nat => q.2 (t : Int))) → zT g (d - 1) mX8_fewestCrews (zIi fun r2 μ1 => K (some (.inl r2)) μ1) 145 [some (.inr (.inr ((0, 8), 78))), none, none, some (.inl (q.1 : Int)), some (.inl (j : Int))] [] N := by
      intro a
      induction a with
      | zero =>
        intro j N hj hN hr
        obtain rfl : j = n := by omega
        have m1 : N 78 3 = M 78 3 := by rw [hN 78 (by omega)]
        refine sX8_fewestCrews_145 ⟨fun _ => zi (h N (fun j hj => by rw [hN j (by omega), hM j (by omega)]) (hCM.row (fun j _ hj => hN j hj) ?_)), fun q2 => by omega⟩
        unfold fr_row
        rw [hn2]; exact hr
      | succ a ih =>
        intro j N hj hN hr
        have m1 : N 78 3 = M 78 3 := by rw [hN 78 (by omega)]
        refine sX8_fewestCrews_145 ⟨fun q2 => by omega, fun q2 => ⟨by omega, by omega, ?_⟩⟩
        rw [hN 87 (by omega), h87 j (by omega)]
        refine c_tellR hr (by simp; omega) (fun P hP hr2 => zn ?_)
        rw [zw_suc (by omega)]
        refine ih (j + 1) P (by omega) (hP.trans hN) ?_
        rw [l_row_s]; exact hr2
    exact lp n 0 M0 (by omega) hM0 hr0
  -- the men
  have men : ∀ (M0 : zM), (∀ i : Nat, i < n → zX S 6 (i : Int) ≤ duty) → (∀ j, ¬ (j = 87 ∨ j = 88 ∨ j = 89) → M0 j = μ j) → (∀ i : Nat, i < n → M0 89 (i : Int) = (cr_cl (zX S) rest duty n i : Int)) → (∀ m, 0 ≤ m ∧ m < 8 → M0 88 m = 0) → ∀ (a m : Nat) (M : zM), m + a = n → (∀ j, ¬ (j = 87 ∨ j = 88) → M j = M0 j) → (∀ x, 0 ≤ x ∧ x < 8 → M 88 x = M0 88 x) → cr_m (zX S) rest duty n (n + 1) 0 = cr_m (zX S) rest duty n (a + 1) m → zT g (d - 1) mX8_fewestCrews (zIi fun r2 μ1 => K (some (.inl r2)) μ1) 95 [some (.inr (.inr ((0, 8), 78))), none, none, some (.inl (m : Int)), none] [] M := by
    intro M0 haw hM0 h89 h88 a
    have pre88 : ∀ (M : zM), (∀ x, 0 ≤ x ∧ x < 8 → M 88 x = M0 88 x) → ∀ x, 0 ≤ x ∧ x < 8 → M 88 x = (cr_msk (fun _ => 0) x 0 : Int) := fun M hM x hx => by rw [hM x hx, h88 x hx]; rfl
    induction a with
    | zero =>
      intro m M hm hM hM8 hcm
      obtain rfl : m = n := by omega
      have hM' : ∀ j, ¬ (j = 87 ∨ j = 88 ∨ j = 89) → M j = μ j := fun j hj => by rw [hM j (by omega), hM0 j hj]
      have n1 : M 78 3 = zX S 8 0 := (hcs M hM').2.2.2.2.2.1.1
      obtain ⟨r, hr⟩ := cr_go_full (X := zX S) (rest := rest) (duty := duty) (men := (m : Int)) m 0 0 (fun _ => 0) (by omega) (by omega) (fun i _ hi2 => haw i (by omega)) (fun i hi2 => by omega)
      have hcm2 : cr_m (zX S) rest duty m (0 + 1) m = some (m, r) := by simp only [cr_m, hr]
      rw [hcm2] at hcm
      refine sX8_fewestCrews_95 ⟨fun _ => sX8_fewestCrews_119 ⟨fun q => by omega, fun _ => ⟨by omega, ?_⟩⟩, fun q => by omega⟩
      refine c_canCrew (Y := S.1) (rest := rest) (duty := duty) hi hn (by omega) (by omega) haw m (d - 1 - 1) 0 0 (fun _ => 0) M _ (by omega) (by omega) (by omega) (by omega) (fun i hi2 => by rw [hM 89 (by omega)]; exact h89 i hi2) (pre88 M hM8) (fun i hi2 => by omega) (fun r' N hg hN1 hN2 hN3 => zb1 ?_) (fun N hg _ _ _ => ?_)
      · rw [hr] at hg
        cases hg
        exact tell (m, r) N hcm (fun j hj => by rw [hN1 j (by omega), hM' j hj]) hN3
      · rw [hr] at hg; cases hg
    | succ a ih =>
      intro m M hm hM hM8 hcm
      have hM' : ∀ j, ¬ (j = 87 ∨ j = 88 ∨ j = 89) → M j = μ j := fun j hj => by rw [hM j (by omega), hM0 j hj]
      have n1 : M 78 3 = zX S 8 0 := (hcs M hM').2.2.2.2.2.1.1
      refine sX8_fewestCrews_95 ⟨fun _ => by omega, fun q => ⟨by omega, ?_⟩⟩
      refine c_canCrew (Y := S.1) (rest := rest) (duty := duty) hi hn (by omega) (by omega) haw n (d - 1 - 1) 0 0 (fun _ => 0) M _ (by omega) (by omega) (by omega) (by omega) (fun i hi2 => by rw [hM 89 (by omega)]; exact h89 i hi2) (pre88 M hM8) (fun i hi2 => by omega) (fun r' N hg hN1 hN2 hN3 => zb1 ?_) (fun N hg hN1 hN2 _ => zb0 ?_)
      · have hcm2 : cr_m (zX S) rest duty n (a + 1 + 1) m = some (m, r') := by simp only [cr_m, hg]
        rw [hcm2] at hcm
        have n2 : N 78 3 = zX S 8 0 := by rw [hN1 78 (by omega), n1]
        refine sX8_fewestCrews_119 ⟨fun _ => ⟨by omega, ?_⟩, fun q => by omega⟩
        exact tell (m, r') N hcm (fun j hj => by rw [hN1 j (by omega), hM' j hj]) hN3
      · have hcm2 : cr_m (zX S) rest duty n (a + 1 + 1) m = cr_m (zX S) rest duty n (a + 1) (m + 1) := by simp only [cr_m, hg]
        rw [zw_suc (by omega)]
        exact ih (m + 1) N (by omega) (fun j hj => by rw [hN1 j hj, hM j hj]) (fun x hx => by rw [hN2 x hx, hM8 x hx]) (by rw [hcm, hcm2])
  -- who clashes
  have lp : ∀ (a t : Nat) (M : zM), t + a = n → (∀ j, ¬ j = 89 → M j = μ j) → (∀ i : Nat, i < t → zX S 6 (i : Int) ≤ duty) → (∀ i : Nat, i < t → M 89 (i : Int) = (cr_cl (zX S) rest duty n i : Int)) → zT g (d - 1) mX8_fewestCrews (zIi fun r2 μ1 => K (some (.inl r2)) μ1) 2 [some (.inr (.inr ((0, 8), 78))), some (.inl rest), some (.inl duty), some (.inl (t : Int)), none] [] M := by
    intro a
    induction a with
    | zero =>
      intro t M ht hM haw h89
      obtain rfl : t = n := by omega
      have n1 : M 78 3 = zX S 8 0 := (hcs M (fun j hj => hM j (by omega))).2.2.2.2.2.1.1
      refine sX8_fewestCrews_2 ⟨fun _ => ⟨by omega, c_fill (by omega) (fun M1 hM1 hf1 => zn ?_)⟩, fun q => by omega⟩
      exact men M1 haw (fun j hj => by rw [hM1 j (by omega), hM j (by omega)]) (fun i hi2 => by rw [hM1 89 (by omega)]; exact h89 i hi2) (fun m hm => hf1 m (by omega)) t 0 M1 (by omega) (fun _ _ => rfl) (fun _ _ => rfl) rfl
    | succ a ih =>
      intro t M ht hM haw h89
      have hCM := hcs M (fun j hj => hM j (by omega))
      have hNM : cN M (zX S) := hCM.2.2.2.2.2.1
      have n1 := hNM.1
      have x6 := (hNM.2.1 (t : Int) (by omega)).2.2
      refine sX8_fewestCrews_2 ⟨fun q => by omega, fun q => ⟨by omega, ?_⟩⟩
      rw [x6]
      refine ⟨fun q2 => ?_, fun q2 => ?_⟩
      · have l3 : ∀ (c o : Nat) (N : zM), o + c = n → (∀ j, ¬ j = 89 → N j = μ j) → (∀ i : Nat, i < t → N 89 (i : Int) = (cr_cl (zX S) rest duty n i : Int)) → N 89 (t : Int) = (f_bits (fun o => decide (¬ o = t) && !cr_two (zX S) rest duty (t : Int) (o : Int)) o : Int) → zT g (d - 1) mX8_fewestCrews (zIi fun r2 μ1 => K (some (.inl r2)) μ1) 33 [some (.inr (.inr ((0, 8), 78))), some (.inl rest), some (.inl duty), some (.inl (t : Int)), some (.inl (o : Int))] [] N := by
          intro c
          induction c with
          | zero =>
            intro o N ho hN k1 k2
            obtain rfl : o = n := by omega
            have n1 : N 78 3 = zX S 8 0 := (hcs N (fun j hj => hN j (by omega))).2.2.2.2.2.1.1
            refine sX8_fewestCrews_33 ⟨fun _ => ?_, fun q => by omega⟩
            rw [zw_suc (by omega)]
            refine ih (t + 1) N (by omega) hN (fun i hi2 => ?_) (fun i hi2 => ?_)
            · by_cases q6 : i = t
              · subst q6; exact q2
              · exact haw i (by omega)
            · by_cases q6 : i = t
              · subst q6; exact k2
              · exact k1 i (by omega)
          | succ c ihc =>
            intro o N ho hN k1 k2
            have hCN := hcs N (fun j hj => hN j (by omega))
            have hNN : cN N (zX S) := hCN.2.2.2.2.2.1
            have n1 := hNN.1
            refine sX8_fewestCrews_33 ⟨fun q => by omega, fun q => ⟨fun q3 => ?_, fun q3 => ⟨by omega, c_canShare (Y := S.1) hNN hi (by omega) (by omega) (by omega) (by omega) (by omega) (fun q4 => zb1 ?_) (fun q4 => zb0 ⟨by omega, ?_⟩)⟩⟩⟩
            · rw [zw_suc (by omega)]
              refine ihc (o + 1) N (by omega) hN k1 ?_
              rw [k2, z_no_bit (p := fun o => decide (¬ o = t) && !cr_two (zX S) rest duty (t : Int) (o : Int)) (n := o) (by simp; intro hh; omega)]
            · rw [zw_suc (by omega)]
              refine ihc (o + 1) N (by omega) hN k1 ?_
              rw [k2, z_no_bit (p := fun o => decide (¬ o = t) && !cr_two (zX S) rest duty (t : Int) (o : Int)) (n := o) (by simp [q4])]
            · rw [zw_suc (by omega)]
              refine ihc (o + 1) _ (by omega) (fun j hj => by rw [zU_off j hj]; exact hN j hj) (fun i hi2 => by rw [zU_ne (by omega)]; exact k1 i hi2) ?_
              rw [zU_eq, k2, z_or_bit (p := fun o => decide (¬ o = t) && !cr_two (zX S) rest duty (t : Int) (o : Int)) (n := o) (by omega) (by simp [q4]; omega)]
        refine l3 n 0 _ (by omega) (fun j hj => by rw [zU_off j hj]; exact hM j hj) (fun i hi2 => by rw [zU_ne (by omega)]; exact h89 i hi2) ?_
        rw [zU_eq]; rfl
      · rw [cr_m_bad ⟨t, by omega, q2⟩] at h
        simp only [] at h
        exact zi (h M (fun j hj => hM j (by omega)) hCM)
  exact lp n 0 μ (by omega) (fun _ _ => rfl) (fun i hi2 => by omega) (fun i hi2 => by omega)
end
