-- needs 9r
/-! put: who comes in where, as the reference finds it -/
/-- how many come, how many stalls, who may stand at the back, who in front, who before whom, what a stall costs -/
abbrev zPt : Type := Nat × Nat × (Nat → Nat → Bool) × (Nat → Nat → Bool) × (Nat → Nat → Nat → Bool) × (Nat → Int)
def pt_m (Q : zPt) : Nat := Q.1
def pt_n (Q : zPt) : Nat := Q.2.1
def pt_B (Q : zPt) : Nat → Nat → Bool := Q.2.2.1
def pt_F (Q : zPt) : Nat → Nat → Bool := Q.2.2.2.1
def pt_G (Q : zPt) : Nat → Nat → Nat → Bool := Q.2.2.2.2.1
def pt_c (Q : zPt) : Nat → Int := Q.2.2.2.2.2
/-- who stands in a stall first, and second -/
abbrev zSt2 : Type := (Nat → Int) × (Nat → Int)
def pt_can (Q : zPt) (z : zSt2) (k s : Nat) : Bool := if z.1 s = -1 then pt_B Q k s else if z.2 s = -1 then pt_F Q k s && pt_G Q (z.1 s).toNat k s else false
def pt_u (f : Nat → Int) (s : Nat) (v : Int) : Nat → Int := fun x => if x = s then v else f x
def pt_in (z : zSt2) (k s : Nat) : zSt2 := if z.1 s = -1 then (pt_u z.1 s (k : Int), z.2) else (z.1, pt_u z.2 s (k : Int))
def pt_W (Q : zPt) : Nat → zSt2 → Int
  | 0, _ => 0
  | k + 1, z => z_lp (fun s v => if pt_can Q z (pt_m Q - (k + 1)) s = false then v else min v (pt_c Q s + pt_W Q k (pt_in z (pt_m Q - (k + 1)) s))) (pt_n Q) 0 1000000
def pt_h (Q : zPt) (k : Nat) (z : zSt2) : Int × Bool := z_lp (fun s q => if q.2 = true then q else if pt_can Q z (pt_m Q - (k + 1)) s = false then q else ((s : Int), decide (pt_c Q s + pt_W Q k (pt_in z (pt_m Q - (k + 1)) s) = pt_W Q (k + 1) z))) (pt_n Q) 0 (-1, false)
def pt_R (Q : zPt) : Nat → zSt2 → List Int
  | 0, _ => []
  | k + 1, z => (pt_h Q k z).1 :: pt_R Q k (pt_in z (pt_m Q - (k + 1)) (pt_h Q k z).1.toNat)
def pt_V (Q : zPt) : Nat → zSt2 → List Int → Prop
  | 0, _, r => r = []
  | _ + 1, _, [] => False
  | k + 1, z, c :: r => ∃ s : Nat, s < pt_n Q ∧ c = (s : Int) ∧ pt_can Q z (pt_m Q - (k + 1)) s = true ∧ pt_V Q k (pt_in z (pt_m Q - (k + 1)) s) r
def pt_v (Q : zPt) : Nat → List Int → Int
  | k + 1, c :: r => pt_c Q c.toNat + pt_v Q k r
  | _, _ => 0
def pt_cd (Q : zPt) : Nat → List Int → Int
  | k + 1, c :: r => c * (24 : Int) ^ (k + (6 - pt_m Q)) + pt_cd Q k r
  | _, _ => 0
theorem z_mn {bad : Nat → Prop} [DecidablePred bad] {f : Nat → Int} {v : Int} : ∀ m : Nat, z_lp (fun e v => if bad e then v else min v (f e)) m 0 v ≤ v ∧ (∀ e, e < m → ¬ bad e → z_lp (fun e v => if bad e then v else min v (f e)) m 0 v ≤ f e) ∧ (z_lp (fun e v => if bad e then v else min v (f e)) m 0 v = v ∨ ∃ e, e < m ∧ ¬ bad e ∧ z_lp (fun e v => if bad e then v else min v (f e)) m 0 v = f e)
  | 0 => ⟨Int.le_refl _, fun e he => by omega, Or.inl rfl⟩
  | m + 1 => by
    obtain ⟨h1, h2, h3⟩ := z_mn (bad := bad) (f := f) (v := v) m
    rw [z_lp_snoc, Nat.zero_add]
    generalize z_lp (fun e v => if bad e then v else min v (f e)) m 0 v = w at *
    by_cases q : bad m
    · rw [if_pos q]
      refine ⟨h1, fun e he hb => ?_, ?_⟩
      · rcases Nat.lt_or_ge e m with q2 | q2
        · exact h2 e q2 hb
        · obtain rfl : e = m := by omega
          exact absurd q hb
      · rcases h3 with h3 | ⟨e, a, b, c⟩
        · exact Or.inl h3
        · exact Or.inr ⟨e, by omega, b, c⟩
    · rw [if_neg q]
      refine ⟨by omega, fun e he hb => ?_, ?_⟩
      · rcases Nat.lt_or_ge e m with q2 | q2
        · have := h2 e q2 hb
          omega
        · obtain rfl : e = m := by omega
          omega
      · by_cases q3 : f m ≤ w
        · exact Or.inr ⟨m, by omega, q, by omega⟩
        · rcases h3 with h3 | ⟨e, a, b, c⟩
          · exact Or.inl (by omega)
          · exact Or.inr ⟨e, by omega, b, by omega⟩
section
variable {Q : zPt} {k : Nat} {z : zSt2}
theorem pt_W_le : pt_W Q (k + 1) z ≤ 1000000 := (z_mn (pt_n Q)).1
theorem pt_W_ge {s : Nat} (hs : s < pt_n Q) (h : pt_can Q z (pt_m Q - (k + 1)) s = true) : pt_W Q (k + 1) z ≤ pt_c Q s + pt_W Q k (pt_in z (pt_m Q - (k + 1)) s) := (z_mn (pt_n Q)).2.1 s hs (by rw [h]; simp)
theorem pt_W_is : pt_W Q (k + 1) z = 1000000 ∨ ∃ s, s < pt_n Q ∧ ¬ pt_can Q z (pt_m Q - (k + 1)) s = false ∧ pt_W Q (k + 1) z = pt_c Q s + pt_W Q k (pt_in z (pt_m Q - (k + 1)) s) := (z_mn (pt_n Q)).2.2
/-- the choice is the least that is worth it -/
theorem pt_h_is (h : pt_W Q (k + 1) z < 1000000) : ∃ s, s < pt_n Q ∧ (pt_h Q k z).1 = (s : Int) ∧ pt_can Q z (pt_m Q - (k + 1)) s = true ∧ pt_c Q s + pt_W Q k (pt_in z (pt_m Q - (k + 1)) s) = pt_W Q (k + 1) z ∧ ∀ s', s' < s → pt_can Q z (pt_m Q - (k + 1)) s' = true → ¬ pt_c Q s' + pt_W Q k (pt_in z (pt_m Q - (k + 1)) s') = pt_W Q (k + 1) z := by
  have hh := z_fst (bad := fun s => pt_can Q z (pt_m Q - (k + 1)) s = false) (p := fun s => pt_c Q s + pt_W Q k (pt_in z (pt_m Q - (k + 1)) s) = pt_W Q (k + 1) z) (b0 := false) (pt_n Q)
  have e0 : pt_h Q k z = z_lp (fun s (q : Int × Bool) => if q.2 = true then q else if pt_can Q z (pt_m Q - (k + 1)) s = false then q else ((s : Int), decide (pt_c Q s + pt_W Q k (pt_in z (pt_m Q - (k + 1)) s) = pt_W Q (k + 1) z))) (pt_n Q) 0 (-1, false) := rfl
  rw [← e0] at hh
  have tr : ∀ s, ¬ pt_can Q z (pt_m Q - (k + 1)) s = false → pt_can Q z (pt_m Q - (k + 1)) s = true := fun s hs => by
    cases hb : pt_can Q z (pt_m Q - (k + 1)) s
    · exact absurd hb hs
    · rfl
  rcases hh with ⟨h1, h2, h3⟩ | ⟨h1, h2⟩ | ⟨e, h1, h2, h3, h4, h5, h6⟩
  · rcases pt_W_is (Q := Q) (k := k) (z := z) with q | ⟨s, a, b, c⟩
    · omega
    · exact absurd c.symm (h3 s a b)
  · cases h2
  · exact ⟨e, h1, by rw [h2], tr e h4, h5, fun s' a b => h6 s' a (by rw [b]; simp)⟩
end
theorem pt_A1 (Q : zPt) : ∀ (k : Nat) (z : zSt2) (r : List Int), pt_V Q k z r → pt_W Q k z ≤ pt_v Q k r
  | 0, _, r, h => by
    have h : r = [] := h
    subst h
    exact Int.le_refl _
  | k + 1, z, [], h => h.elim
  | k + 1, z, c :: r, h => by
    obtain ⟨s, h1, h2, h3, h4⟩ := h
    have a1 := pt_A1 Q k _ r h4
    have a2 := pt_W_ge (Q := Q) (k := k) (z := z) h1 h3
    show pt_W Q (k + 1) z ≤ pt_c Q c.toNat + pt_v Q k r
    rw [h2, show ((s : Int)).toNat = s from by omega]
    omega
theorem pt_A2 (Q : zPt) (hc : ∀ s, s < pt_n Q → 0 ≤ pt_c Q s) : ∀ (k : Nat) (z : zSt2), pt_W Q k z < 1000000 → pt_V Q k z (pt_R Q k z) ∧ pt_v Q k (pt_R Q k z) = pt_W Q k z
  | 0, _, _ => ⟨rfl, rfl⟩
  | k + 1, z, h => by
    obtain ⟨s, h1, h2, h3, h4, h5⟩ := pt_h_is h
    have c0 := hc s h1
    have ih := pt_A2 Q hc k (pt_in z (pt_m Q - (k + 1)) s) (by omega)
    show (∃ s' : Nat, s' < pt_n Q ∧ (pt_h Q k z).1 = (s' : Int) ∧ pt_can Q z (pt_m Q - (k + 1)) s' = true ∧ pt_V Q k (pt_in z (pt_m Q - (k + 1)) s') (pt_R Q k (pt_in z (pt_m Q - (k + 1)) (pt_h Q k z).1.toNat))) ∧ pt_c Q (pt_h Q k z).1.toNat + pt_v Q k (pt_R Q k (pt_in z (pt_m Q - (k + 1)) (pt_h Q k z).1.toNat)) = pt_W Q (k + 1) z
    rw [h2, show ((s : Int)).toNat = s from by omega]
    exact ⟨⟨s, h1, rfl, h3, ih.1⟩, by omega⟩
theorem p24 (a : Nat) : (0 : Int) < 24 ^ a := Int.pow_pos (by omega)
theorem pt_cd_b (Q : zPt) (hn : pt_n Q ≤ 24) : ∀ (k : Nat) (z : zSt2) (r : List Int), pt_V Q k z r → 0 ≤ pt_cd Q k r ∧ pt_cd Q k r < (24 : Int) ^ (k + (6 - pt_m Q))
  | 0, _, r, h => by
    have h : r = [] := h
    subst h
    exact ⟨Int.le_refl _, p24 _⟩
  | k + 1, z, [], h => h.elim
  | k + 1, z, c :: r, h => by
    obtain ⟨s, h1, h2, h3, h4⟩ := h
    have ih := pt_cd_b Q hn k _ r h4
    show 0 ≤ c * (24 : Int) ^ (k + (6 - pt_m Q)) + pt_cd Q k r ∧ c * (24 : Int) ^ (k + (6 - pt_m Q)) + pt_cd Q k r < (24 : Int) ^ (k + 1 + (6 - pt_m Q))
    have pp := p24 (k + (6 - pt_m Q))
    rw [show k + 1 + (6 - pt_m Q) = (k + (6 - pt_m Q)) + 1 from by omega, Int.pow_succ]
    generalize (24 : Int) ^ (k + (6 - pt_m Q)) = A at *
    have m1 : 0 ≤ c * A := Int.mul_nonneg (by omega) (by omega)
    have m2 : c * A ≤ 23 * A := Int.mul_le_mul_of_nonneg_right (by omega) (by omega)
    omega
theorem pt_A3 (Q : zPt) (hn : pt_n Q ≤ 24) (hc : ∀ s, s < pt_n Q → 0 ≤ pt_c Q s) : ∀ (k : Nat) (z : zSt2) (r : List Int), pt_W Q k z < 1000000 → pt_V Q k z r → pt_v Q k r = pt_W Q k z → pt_cd Q k (pt_R Q k z) ≤ pt_cd Q k r
  | 0, _, r, _, h, _ => by
    have h : r = [] := h
    subst h
    exact Int.le_refl _
  | k + 1, z, [], _, h, _ => h.elim
  | k + 1, z, c :: r, hlt, h, hv => by
    have hv : pt_c Q c.toNat + pt_v Q k r = pt_W Q (k + 1) z := hv
    obtain ⟨s, h1, h2, h3, h4⟩ := h
    obtain ⟨t, g1, g2, g3, g4, g5⟩ := pt_h_is hlt
    rw [h2, show ((s : Int)).toNat = s from by omega] at hv
    have a1 := pt_A1 Q k _ r h4
    have a2 := pt_W_ge (Q := Q) (k := k) (z := z) h1 h3
    have cs := hc s h1
    have ct := hc t g1
    have ts : t ≤ s := by
      rcases Nat.lt_or_ge s t with q | q
      · exact absurd (by omega) (g5 s q h3)
      · exact q
    show (pt_h Q k z).1 * (24 : Int) ^ (k + (6 - pt_m Q)) + pt_cd Q k (pt_R Q k (pt_in z (pt_m Q - (k + 1)) (pt_h Q k z).1.toNat)) ≤ c * (24 : Int) ^ (k + (6 - pt_m Q)) + pt_cd Q k r
    rw [g2, h2, show ((t : Int)).toNat = t from by omega]
    have pp := p24 (k + (6 - pt_m Q))
    have bR := pt_cd_b Q hn k _ _ (pt_A2 Q hc k (pt_in z (pt_m Q - (k + 1)) t) (by omega)).1
    have br := pt_cd_b Q hn k _ _ h4
    rcases Nat.lt_or_ge t s with q | q
    · have m : ((t : Int) + 1) * (24 : Int) ^ (k + (6 - pt_m Q)) ≤ (s : Int) * (24 : Int) ^ (k + (6 - pt_m Q)) := Int.mul_le_mul_of_nonneg_right (by omega) (by omega)
      rw [Int.add_mul, Int.one_mul] at m
      omega
    · obtain rfl : s = t := by omega
      have ih := pt_A3 Q hn hc k _ r (by omega) h4 (by omega)
      omega
/-! the rows as functions -/
/-- one stands rightly, behind those before it -/
def pt_C (Q : zPt) (a : Nat → Int) (j i : Nat) : Prop := ∃ s : Nat, s < j ∧ a i = (s : Int) ∧ (((∀ i', i' < i → ¬ a i' = a i) ∧ pt_B Q i s = true) ∨ ∃ i1, i1 < i ∧ a i1 = a i ∧ (∀ i', i' < i → ¬ i' = i1 → ¬ a i' = a i) ∧ pt_F Q i s = true ∧ pt_G Q i1 i s = true)
def pt_st (Q : zPt) (a : Nat → Int) (k : Nat) (z : zSt2) : Prop := ∀ s, s < pt_n Q → (z.1 s = -1 ∧ z.2 s = -1 ∧ ∀ i, i < k → ¬ a i = (s : Int)) ∨ ∃ i1 : Nat, i1 < k ∧ z.1 s = (i1 : Int) ∧ a i1 = (s : Int) ∧ ((z.2 s = -1 ∧ ∀ i, i < k → ¬ i = i1 → ¬ a i = (s : Int)) ∨ (¬ z.2 s = -1 ∧ ∃ i2, i2 < k ∧ ¬ i2 = i1 ∧ a i2 = (s : Int)))
theorem pt_can_C {Q : zPt} {a : Nat → Int} {k s : Nat} {z : zSt2} (h : pt_st Q a k z) (hs : s < pt_n Q) (ha : a k = (s : Int)) : pt_can Q z k s = true ↔ pt_C Q a (pt_n Q) k := by
  unfold pt_can
  constructor
  · intro hc
    refine ⟨s, hs, ha, ?_⟩
    rcases h s hs with ⟨h1, h2, h3⟩ | ⟨i1, h1, h2, h3, h4⟩
    · rw [if_pos h1] at hc
      exact Or.inl ⟨fun i' hi' => by rw [ha]; exact h3 i' hi', hc⟩
    · rw [if_neg (by omega)] at hc
      rcases h4 with ⟨h5, h6⟩ | ⟨h5, i2, h6⟩
      · rw [if_pos h5, h2, show ((i1 : Int)).toNat = i1 from by omega, Bool.and_eq_true] at hc
        exact Or.inr ⟨i1, h1, by rw [ha, h3], fun i' a' b' => by rw [ha]; exact h6 i' a' b', hc.1, hc.2⟩
      · rw [if_neg h5] at hc
        cases hc
  · rintro ⟨s', hs', ha', hC⟩
    obtain rfl : s' = s := by omega
    rcases h s' hs with ⟨h1, h2, h3⟩ | ⟨i1, h1, h2, h3, h4⟩
    · rw [if_pos h1]
      rcases hC with ⟨_, hB⟩ | ⟨i1, c1, c2, _⟩
      · exact hB
      · exact absurd (by rw [c2, ha]) (h3 i1 c1)
    · rw [if_neg (by omega)]
      rcases hC with ⟨hn, _⟩ | ⟨i', c1, c2, c3, c4, c5⟩
      · exact absurd (by rw [ha, h3]) (hn i1 h1)
      · have e : i1 = i' := by
          by_cases q : i1 = i'
          · exact q
          · exact absurd (by rw [ha, h3]) (c3 i1 h1 q)
        subst e
        rcases h4 with ⟨h5, h6⟩ | ⟨h5, i2, h6, h7, h8⟩
        · rw [if_pos h5, h2, show ((i1 : Int)).toNat = i1 from by omega, c4, c5]
          rfl
        · exact absurd (by rw [ha, h8]) (c3 i2 h6 h7)
theorem pt_st_in {Q : zPt} {a : Nat → Int} {k s : Nat} {z : zSt2} (h : pt_st Q a k z) (hs : s < pt_n Q) (ha : a k = (s : Int)) (hc : pt_can Q z k s = true) : pt_st Q a (k + 1) (pt_in z k s) := by
  intro x hx
  unfold pt_in
  by_cases q : z.1 s = -1
  · rw [if_pos q]
    unfold pt_u
    simp only []
    by_cases qx : x = s
    · subst qx
      rcases h x hx with ⟨h1, h2, h3⟩ | ⟨i1, h1, h2, _⟩
      · rw [if_pos rfl]
        refine Or.inr ⟨k, by omega, rfl, ha, Or.inl ⟨h2, fun i hi hne => h3 i (by omega)⟩⟩
      · omega
    · rw [if_neg qx]
      rcases h x hx with ⟨h1, h2, h3⟩ | ⟨i1, h1, h2, h3, h4⟩
      · refine Or.inl ⟨h1, h2, fun i hi => ?_⟩
        rcases Nat.lt_or_ge i k with q2 | q2
        · exact h3 i q2
        · obtain rfl : i = k := by omega
          omega
      · refine Or.inr ⟨i1, by omega, h2, h3, ?_⟩
        rcases h4 with ⟨h5, h6⟩ | ⟨h5, i2, h6, h7, h8⟩
        · refine Or.inl ⟨h5, fun i hi hne => ?_⟩
          rcases Nat.lt_or_ge i k with q2 | q2
          · exact h6 i q2 hne
          · obtain rfl : i = k := by omega
            omega
        · exact Or.inr ⟨h5, i2, by omega, h7, h8⟩
  · rw [if_neg q]
    unfold pt_u
    simp only []
    by_cases qx : x = s
    · subst qx
      rcases h x hx with ⟨h1, h2, h3⟩ | ⟨i1, h1, h2, h3, h4⟩
      · exact absurd h1 q
      · refine Or.inr ⟨i1, by omega, h2, h3, Or.inr ⟨by rw [if_pos rfl]; omega, k, by omega, by omega, ha⟩⟩
    · rw [if_neg qx]
      rcases h x hx with ⟨h1, h2, h3⟩ | ⟨i1, h1, h2, h3, h4⟩
      · refine Or.inl ⟨h1, h2, fun i hi => ?_⟩
        rcases Nat.lt_or_ge i k with q2 | q2
        · exact h3 i q2
        · obtain rfl : i = k := by omega
          omega
      · refine Or.inr ⟨i1, by omega, h2, h3, ?_⟩
        rcases h4 with ⟨h5, h6⟩ | ⟨h5, i2, h6, h7, h8⟩
        · refine Or.inl ⟨h5, fun i hi hne => ?_⟩
          rcases Nat.lt_or_ge i k with q2 | q2
          · exact h6 i q2 hne
          · obtain rfl : i = k := by omega
            omega
        · exact Or.inr ⟨h5, i2, by omega, h7, h8⟩
theorem pt_FV {Q : zPt} {a : Nat → Int} : ∀ (k : Nat) (z : zSt2), k ≤ pt_m Q → pt_st Q a (pt_m Q - k) z → (∀ i, pt_m Q - k ≤ i → i < pt_m Q → pt_C Q a (pt_n Q) i) → pt_V Q k z (mf_sf (pt_m Q) a k)
  | 0, _, _, _, _ => rfl
  | k + 1, z, hk, hz, hC => by
    have hc := hC (pt_m Q - (k + 1)) (by omega) (by omega)
    obtain ⟨s, hs, ha, _⟩ := hc
    have can := (pt_can_C hz hs ha).2 (hC (pt_m Q - (k + 1)) (by omega) (by omega))
    have hz2 := pt_st_in hz hs ha can
    rw [show pt_m Q - (k + 1) + 1 = pt_m Q - k from by omega] at hz2
    exact ⟨s, hs, ha, can, pt_FV k _ (by omega) hz2 (fun i h1 h2 => hC i (by omega) h2)⟩
theorem pt_VF {Q : zPt} {a : Nat → Int} : ∀ (k : Nat) (z : zSt2), k ≤ pt_m Q → pt_st Q a (pt_m Q - k) z → pt_V Q k z (mf_sf (pt_m Q) a k) → ∀ i, pt_m Q - k ≤ i → i < pt_m Q → pt_C Q a (pt_n Q) i
  | 0, _, _, _, _, i, h1, h2 => by omega
  | k + 1, z, hk, hz, hV, i, h1, h2 => by
    obtain ⟨s, hs, ha, can, hV2⟩ := hV
    have hz2 := pt_st_in hz hs ha can
    rw [show pt_m Q - (k + 1) + 1 = pt_m Q - k from by omega] at hz2
    rcases Nat.lt_or_ge (pt_m Q - (k + 1)) i with q | q
    · exact pt_VF k _ (by omega) hz2 hV2 i (by omega) h2
    · have e : i = pt_m Q - (k + 1) := by omega
      rw [e]
      exact (pt_can_C hz hs ha).1 can
theorem sf_of (m : Nat) : ∀ (k : Nat) (r : List Int), k ≤ m → r.length = k → mf_sf m (fun t => r.getD (t - (m - k)) 0) k = r
  | 0, r, _, h => by
    rw [List.eq_nil_of_length_eq_zero h]
    rfl
  | k + 1, [], _, h => by simp at h
  | k + 1, c :: r, hk, h => by
    show (c :: r).getD (m - (k + 1) - (m - (k + 1))) 0 :: mf_sf m (fun t => (c :: r).getD (t - (m - (k + 1))) 0) k = c :: r
    rw [Nat.sub_self]
    have := sf_of m k r (by omega) (by simpa using h)
    rw [mf_sf_c (b := fun t => r.getD (t - (m - k)) 0) k (by omega) (fun t h1 h2 => by rw [show t - (m - (k + 1)) = t - (m - k) + 1 from by omega]; rfl), this]
    rfl
theorem pt_V_len {Q : zPt} : ∀ (k : Nat) (z : zSt2) (r : List Int), pt_V Q k z r → r.length = k
  | 0, _, r, h => by
    have h : r = [] := h
    rw [h]; rfl
  | k + 1, _, [], h => h.elim
  | k + 1, z, c :: r, h => by
    obtain ⟨s, _, _, _, h4⟩ := h
    have := pt_V_len k _ r h4
    simp [this]
theorem pt_v_sf {Q : zPt} {a : Nat → Int} : ∀ k : Nat, k ≤ pt_m Q → pt_v Q k (mf_sf (pt_m Q) a k) = su (fun i => pt_c Q (a i).toNat) k (pt_m Q - k)
  | 0, _ => rfl
  | k + 1, hk => by
    show pt_c Q (a (pt_m Q - (k + 1))).toNat + pt_v Q k (mf_sf (pt_m Q) a k) = pt_c Q (a (pt_m Q - (k + 1))).toNat + su (fun i => pt_c Q (a i).toNat) k (pt_m Q - (k + 1) + 1)
    rw [pt_v_sf k (by omega), show pt_m Q - (k + 1) + 1 = pt_m Q - k from by omega]
theorem pt_cd_sf {Q : zPt} {a : Nat → Int} (h6 : pt_m Q ≤ 6) : ∀ k : Nat, k ≤ pt_m Q → pt_cd Q k (mf_sf (pt_m Q) a k) = su (fun i => a i * (24 : Int) ^ (5 - i)) k (pt_m Q - k)
  | 0, _ => rfl
  | k + 1, hk => by
    show a (pt_m Q - (k + 1)) * (24 : Int) ^ (k + (6 - pt_m Q)) + pt_cd Q k (mf_sf (pt_m Q) a k) = a (pt_m Q - (k + 1)) * (24 : Int) ^ (5 - (pt_m Q - (k + 1))) + su (fun i => a i * (24 : Int) ^ (5 - i)) k (pt_m Q - (k + 1) + 1)
    rw [pt_cd_sf h6 k (by omega), show pt_m Q - (k + 1) + 1 = pt_m Q - k from by omega, show 5 - (pt_m Q - (k + 1)) = k + (6 - pt_m Q) from by omega]
def pt_z0 : zSt2 := (fun _ => -1, fun _ => -1)
theorem pt_st0 {Q : zPt} {a : Nat → Int} : pt_st Q a 0 pt_z0 := fun s _ => Or.inl ⟨rfl, rfl, fun i hi => by omega⟩
/-- what a row costs: its steps, then its number -/
def pt_ct (Q : zPt) (i : Nat) (c : Int) : Int := if c = -1 then 0 else pt_c Q c.toNat * 191102976 + c * (24 : Int) ^ (5 - i)
def pt_cost (Q : zPt) (a : Nat → Int) : Int := su (fun i => pt_ct Q i (a i)) (pt_m Q) 0
def pt_cod (Q : zPt) (a : Nat → Int) : Int := su (fun i => a i * (24 : Int) ^ (5 - i)) (pt_m Q) 0
def pt_sum (Q : zPt) (a : Nat → Int) : Int := su (fun i => pt_c Q (a i).toNat) (pt_m Q) 0
def pt_all (Q : zPt) (a : Nat → Int) : Prop := ∀ i, i < pt_m Q → pt_C Q a (pt_n Q) i
theorem pt_cost_eq {Q : zPt} {a : Nat → Int} (h : pt_all Q a) : pt_cost Q a = pt_cod Q a + 191102976 * pt_sum Q a := by
  have := su_lin (F := fun i => a i * (24 : Int) ^ (5 - i)) (G := fun i => pt_c Q (a i).toNat) (H := fun i => a i * (24 : Int) ^ (5 - i) + 191102976 * pt_c Q (a i).toNat) (c := 1) (d := 191102976) (fun t => by omega) (pt_m Q) 0
  have e := su_congr (F := fun i => pt_ct Q i (a i)) (G := fun i => a i * (24 : Int) ^ (5 - i) + 191102976 * pt_c Q (a i).toNat) (pt_m Q) 0 (fun i _ hi => by
    obtain ⟨s, _, hs, _⟩ := h i (by omega)
    unfold pt_ct
    rw [if_neg (by omega)]
    omega)
  unfold pt_cost pt_cod pt_sum
  omega
/-- the reference's row is the best -/
theorem pt_opt {Q : zPt} (h6 : pt_m Q ≤ 6) (hn : pt_n Q ≤ 24) (hc : ∀ s, s < pt_n Q → 0 ≤ pt_c Q s) : (∀ a, pt_all Q a → (0 ≤ pt_cod Q a ∧ pt_cod Q a < 191102976) ∧ pt_W Q (pt_m Q) pt_z0 ≤ pt_sum Q a) ∧ (pt_W Q (pt_m Q) pt_z0 < 1000000 → ∃ a0, pt_all Q a0 ∧ mf_sf (pt_m Q) a0 (pt_m Q) = pt_R Q (pt_m Q) pt_z0 ∧ pt_sum Q a0 = pt_W Q (pt_m Q) pt_z0 ∧ ∀ a, pt_all Q a → pt_cost Q a0 ≤ pt_cost Q a) := by
  have p6 : (24 : Int) ^ (pt_m Q + (6 - pt_m Q)) = 191102976 := by
    rw [show pt_m Q + (6 - pt_m Q) = 6 from by omega]
    decide
  have cb : ∀ a, pt_all Q a → pt_V Q (pt_m Q) pt_z0 (mf_sf (pt_m Q) a (pt_m Q)) := fun a ha => pt_FV (pt_m Q) pt_z0 (Nat.le_refl _) (by rw [Nat.sub_self]; exact pt_st0) (fun i _ hi => ha i hi)
  have cd : ∀ a, pt_cd Q (pt_m Q) (mf_sf (pt_m Q) a (pt_m Q)) = pt_cod Q a := fun a => by
    rw [pt_cd_sf h6 (pt_m Q) (Nat.le_refl _), Nat.sub_self]
    rfl
  have vs : ∀ a, pt_v Q (pt_m Q) (mf_sf (pt_m Q) a (pt_m Q)) = pt_sum Q a := fun a => by
    rw [pt_v_sf (pt_m Q) (Nat.le_refl _), Nat.sub_self]
    rfl
  have first : ∀ a, pt_all Q a → (0 ≤ pt_cod Q a ∧ pt_cod Q a < 191102976) ∧ pt_W Q (pt_m Q) pt_z0 ≤ pt_sum Q a := fun a ha => by
    have b := pt_cd_b Q hn _ _ _ (cb a ha)
    rw [cd a, p6] at b
    have A1 := pt_A1 Q _ _ _ (cb a ha)
    rw [vs a] at A1
    exact ⟨b, A1⟩
  refine ⟨first, fun hlt => ?_⟩
  obtain ⟨v1, v2⟩ := pt_A2 Q hc (pt_m Q) pt_z0 hlt
  have s0 := sf_of (pt_m Q) (pt_m Q) (pt_R Q (pt_m Q) pt_z0) (Nat.le_refl _) (pt_V_len _ _ _ v1)
  obtain ⟨a0, ha0⟩ : ∃ a0 : Nat → Int, (fun t => (pt_R Q (pt_m Q) pt_z0).getD (t - (pt_m Q - pt_m Q)) 0) = a0 := ⟨_, rfl⟩
  rw [ha0] at s0
  have all0 : pt_all Q a0 := fun i hi => pt_VF (pt_m Q) pt_z0 (Nat.le_refl _) (by rw [Nat.sub_self]; exact pt_st0) (by rw [s0]; exact v1) i (by omega) hi
  have sum0 : pt_sum Q a0 = pt_W Q (pt_m Q) pt_z0 := by rw [← vs a0, s0]; exact v2
  refine ⟨a0, all0, s0, sum0, fun a ha => ?_⟩
  rw [pt_cost_eq all0, pt_cost_eq ha]
  have f := first a ha
  have f0 := first a0 all0
  by_cases q : pt_sum Q a = pt_W Q (pt_m Q) pt_z0
  · have A3 := pt_A3 Q hn hc _ _ _ hlt (cb a ha) (by rw [vs a]; exact q)
    rw [← s0, cd, cd] at A3
    omega
  · omega
