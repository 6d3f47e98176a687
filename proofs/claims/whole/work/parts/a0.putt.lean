-- needs 9z
/-! put: the class's call -/
theorem su_d24 {D : Nat → Int} {p : Int} (hD : ∀ t, 0 ≤ D t ∧ D t ≤ 23) (hp : 0 ≤ p) : ∀ t : Nat, t < 6 → ((su (fun t => D t * (24 : Int) ^ (5 - t)) 6 0 + 191102976 * p) / zRo 1000 (t : Int)) % 24 = D t := by
  have e : su (fun t => D t * (24 : Int) ^ (5 - t)) 6 0 = D 0 * 7962624 + (D 1 * 331776 + (D 2 * 13824 + (D 3 * 576 + (D 4 * 24 + (D 5 * 1 + 0))))) := by
    simp only [su]
    rw [show (24 : Int) ^ (5 - 0) = 7962624 from by decide, show (24 : Int) ^ (5 - (0 + 1)) = 331776 from by decide, show (24 : Int) ^ (5 - (0 + 1 + 1)) = 13824 from by decide, show (24 : Int) ^ (5 - (0 + 1 + 1 + 1)) = 576 from by decide, show (24 : Int) ^ (5 - (0 + 1 + 1 + 1 + 1)) = 24 from by decide, show (24 : Int) ^ (5 - (0 + 1 + 1 + 1 + 1 + 1)) = 1 from by decide]
  have d0 := hD 0
  have d1 := hD 1
  have d2 := hD 2
  have d3 := hD 3
  have d4 := hD 4
  have d5 := hD 5
  rw [e]
  intro t ht
  have : t = 0 ∨ t = 1 ∨ t = 2 ∨ t = 3 ∨ t = 4 ∨ t = 5 := by omega
  rcases this with rfl | rfl | rfl | rfl | rfl | rfl
  · rw [show zRo 1000 ((0 : Nat) : Int) = 7962624 from by decide]; omega
  · rw [show zRo 1000 ((1 : Nat) : Int) = 331776 from by decide]; omega
  · rw [show zRo 1000 ((2 : Nat) : Int) = 13824 from by decide]; omega
  · rw [show zRo 1000 ((3 : Nat) : Int) = 576 from by decide]; omega
  · rw [show zRo 1000 ((4 : Nat) : Int) = 24 from by decide]; omega
  · rw [show zRo 1000 ((5 : Nat) : Int) = 1 from by decide]; omega
theorem pt_dig {Q : zPt} {a : Nat → Int} (h6 : pt_m Q ≤ 6) (hn : pt_n Q ≤ 24) (ha : pt_all Q a) (h0 : 0 ≤ pt_sum Q a) {t : Nat} (ht : t < pt_m Q) : (pt_cost Q a / zRo 1000 (t : Int)) % 24 = a t := by
  have dig : ∀ t, t < pt_m Q → 0 ≤ a t ∧ a t ≤ 23 := fun t ht => by
    obtain ⟨s, g1, g2, _⟩ := ha t ht
    omega
  have := su_d24 (D := fun t => if t < pt_m Q then a t else 0) (p := pt_sum Q a) (fun t => by
    by_cases q : t < pt_m Q
    · rw [if_pos q]
      exact dig t q
    · rw [if_neg q]
      omega) h0 t (by omega)
  rw [show (6 : Nat) = pt_m Q + (6 - pt_m Q) from by omega, su_app, su_0 (6 - pt_m Q) _ (fun t h1 h2 => by rw [if_neg (by omega), Int.zero_mul]), Int.add_zero] at this
  rw [su_congr (G := fun t => a t * (24 : Int) ^ (5 - t)) (pt_m Q) 0 (fun t _ h2 => by rw [if_pos (by omega)])] at this
  simp only [if_pos ht] at this
  rw [pt_cost_eq ha]
  exact this
section
variable {g : zG} {d : Nat} {K : Option zV → zM → Prop} {μ : zM} {nn : Int} {S : zS}
theorem c_bestPut (hd : 5 ≤ d) (hC : cS μ S) (hI : iS nn S) (h : ∀ μ', zEc μ' μ → cS μ' (o_put S).2 → K (some (.inl (o_put S).1)) μ') : zCall g d 4 [.inr (.inr ((0, 0), 62))] μ K := by
  have w := hI.env
  have ev := hC.env
  have iB' := hI.2.2.2.2.1
  have b0 := hC.2.2.2.1
  have hW := hI.W
  unfold o_put at h
  obtain ⟨c, ec⟩ : ∃ c, S.2.2.2.1 = c := ⟨_, rfl⟩
  obtain ⟨l, el⟩ : ∃ l, S.2.2.2.2.1 = l := ⟨_, rfl⟩
  rw [ec, el] at h b0 iB'
  obtain ⟨Q, hQ⟩ : ∃ Q, pu_Q S.1 c l = Q := ⟨_, rfl⟩
  rw [hQ] at h
  obtain ⟨n, en⟩ : ∃ n : Nat, S.1 13 0 = (n : Int) := ⟨(S.1 13 0).toNat, by omega⟩
  obtain ⟨m, em0⟩ : ∃ m, c.length = m := ⟨_, rfl⟩
  have em : pt_m Q = m := by rw [← hQ, ← em0]; rfl
  have enQ : pt_n Q = n := by
    rw [← hQ]
    show (S.1 13 0).toNat = n
    omega
  have eB : ∀ k s : Nat, pt_B Q k s = (pu_o S.1 (c.getD k 0) s && f_let S.1 (s : Int) (c.getD k 0) true) := fun k s => by rw [← hQ]; rfl
  have eF : ∀ k s : Nat, pt_F Q k s = (pu_o S.1 (c.getD k 0) s && f_let S.1 (s : Int) (c.getD k 0) false) := fun k s => by rw [← hQ]; rfl
  have eG : ∀ j k s : Nat, pt_G Q j k s = (decide (S.1 9 (c.getD j 0) + S.1 9 (c.getD k 0) ≤ S.1 6 (s : Int)) && decide (zix l (c.getD k 0) < zix l (c.getD j 0))) := fun j k s => by rw [← hQ]; rfl
  have ecs : ∀ s : Nat, pt_c Q s = 4 * f_steps (n : Int) (n : Int) (s : Int) := fun s => by
    rw [← hQ]
    show 4 * f_steps (S.1 13 0) (S.1 13 0) (s : Int) = _
    rw [en]
  have m6 : m ≤ 6 := by rw [← em0]; exact iB'.1
  have n23 : 4 ≤ n ∧ n ≤ 23 := by omega
  have cr : ∀ k : Nat, k < m → μ 63 (k : Int) = c.getD k 0 ∧ 0 ≤ c.getD k 0 ∧ c.getD k 0 < 12 := fun k hk => by
    have := iB'.2.2.1 (c.getD k 0) (by rw [List.getD_eq_getElem?_getD, List.getElem?_eq_getElem (by omega)]; exact List.getElem_mem (by omega))
    exact ⟨zli_d b0.1.2 (by omega), by omega⟩
  have m4 : μ 62 4 = (m : Int) := by rw [← em0]; exact b0.1.1
  have ml : μ 62 6 = (l.length : Int) := b0.2.1
  have cpos : ∀ s : Nat, s < n → 0 ≤ pt_c Q s ∧ pt_c Q s ≤ 92 := fun s hs => by rw [ecs s]; unfold f_steps; omega
  have cts : ∀ i s : Nat, pt_ct Q i (s : Int) = 4 * f_steps (n : Int) (n : Int) (s : Int) * 191102976 + (s : Int) * (24 : Int) ^ (5 - i) := fun i s => by
    unfold pt_ct
    rw [if_neg (by omega), show ((s : Int)).toNat = s from by omega, ecs s]
  have ct0 : ∀ s : Nat, s < n → ∀ i, 0 ≤ pt_ct Q i (s : Int) := fun s hs i => by
    rw [cts i s, ← ecs s]
    have a1 := cpos s hs
    have a2 : 0 ≤ (s : Int) * (24 : Int) ^ (5 - i) := Int.mul_nonneg (by omega) (Int.le_of_lt (p24 _))
    omega
  obtain ⟨opt1, opt2⟩ := pt_opt (Q := Q) (by rw [em]; exact m6) (by rw [enQ]; omega) (fun s hs => by rw [enQ] at hs; exact (cpos s hs).1)
  rw [em] at opt1 opt2
  rw [em0] at h
  have sumb : ∀ a, pt_all Q a → 0 ≤ pt_sum Q a ∧ pt_sum Q a ≤ 552 := fun a ha => by
    have := su_b (F := fun i => pt_c Q (a i).toNat) (a := 0) (b := 92) (pt_m Q) 0 (fun i _ hi => by
      obtain ⟨s, g1, g2, _⟩ := ha i (by omega)
      rw [g2, show ((s : Int)).toNat = s from by omega]
      exact cpos s (by omega))
    unfold pt_sum
    rw [em] at this ⊢
    omega
  by_cases qm : m = 0
  · rw [if_pos (Or.inl qm)] at h
    exact sX0_bestPut ⟨fun _ => h μ (zEc.refl μ) hC, fun q => by omega⟩
  by_cases ql : l.length < m
  · rw [if_pos (Or.inr ql)] at h
    exact sX0_bestPut ⟨fun q => by omega, fun _ => ⟨fun q => by omega, fun _ => h μ (zEc.refl μ) hC⟩⟩
  rw [if_neg (by omega)] at h
  have p6 : 2 ^ m ≤ 2 ^ 6 := Nat.pow_le_pow_right (by omega) m6
  have pp := Nat.two_pow_pos m
  -- told
  have tell : ∀ (a0 : Nat → Int) (N0 : zM), pt_W Q m pt_z0 < 1000000 → pt_all Q a0 → mf_sf m a0 m = pt_R Q m pt_z0 → pt_sum Q a0 = pt_W Q m pt_z0 → zEo N0 μ → N0 65 ((2 ^ m - 1 : Nat) : Int) = pt_cost Q a0 → ∀ (k i : Nat) (N : zM) (r : List Int), i + k = m → zE18 N N0 → cR N r → r.length = i → pt_R Q m pt_z0 = r ++ mf_sf m a0 k → zT g d mX0_bestPut K 162 [some (.inr (.inr ((0, 0), 62))), some (.inl ((2 ^ m - 1 : Nat) : Int)), some (.inl (i : Int))] [] N := by
    intro a0 N0 hlt all0 hsf hsum hN0 hb k
    rw [if_pos hlt] at h
    have o := (opt1 a0 all0).1
    have sb := sumb a0 all0
    have ce := pt_cost_eq all0
    have cb : 0 ≤ pt_cost Q a0 ∧ pt_cost Q a0 < 1152921504606846976 := by omega
    induction k with
    | zero =>
      intro i N r hi hN hr hl he
      obtain rfl : i = m := by omega
      have he : pt_R Q i pt_z0 = r ++ [] := he
      rw [List.append_nil] at he
      refine sX0_bestPut_162 ⟨fun _ => ⟨by omega, ?_⟩, fun q => by rw [hN 62 (by omega), hN0 62 (by omega), m4] at q; omega⟩
      rw [hN 65 (by omega), hb, Int.tdiv_eq_ediv_of_nonneg cb.1, show pt_cost Q a0 / 191102976 = pt_sum Q a0 from by omega, zxi (x := pt_sum Q a0) (by omega) (by omega), zwi (x := pt_sum Q a0) (by omega) (by omega), hsum]
      refine h N (fun j hj => by rw [hN j (by omega), hN0 j (by omega)]) ?_
      rw [he]
      exact hC.row (fun j hj1 hj2 => by rw [hN j hj2]; exact hN0 j (by unfold z_scr at hj1; omega)) hr
    | succ k ih =>
      intro i N r hi hN hr hl he
      obtain ⟨p1, p2, p3⟩ := pl_24 i (by omega)
      have dg := pt_dig (Q := Q) (a := a0) (t := i) (by rw [em]; exact m6) (by rw [enQ]; omega) all0 sb.1 (by rw [em]; omega)
      have ai : 0 ≤ a0 i ∧ a0 i ≤ 23 := by
        obtain ⟨s, g1, g2, _⟩ := all0 i (by rw [em]; omega)
        omega
      refine sX0_bestPut_162 ⟨fun q => by rw [hN 62 (by omega), hN0 62 (by omega), m4] at q; omega, fun _ => ⟨by omega, by omega, by omega, by omega, ?_⟩⟩
      have q0 : 0 ≤ pt_cost Q a0 / zRo 1000 (i : Int) := Int.ediv_nonneg cb.1 (by omega)
      have q1 : pt_cost Q a0 / zRo 1000 (i : Int) ≤ pt_cost Q a0 := Int.ediv_le_self _ cb.1
      rw [hN 65 (by omega), hb, Int.tdiv_eq_ediv_of_nonneg cb.1, zxi (x := pt_cost Q a0 / zRo 1000 (i : Int)) (by omega) (by omega), Int.tmod_eq_emod_of_nonneg q0, dg, zxi (x := a0 i) (by omega) (by omega), zwi (x := a0 i) (by omega) (by omega)]
      refine c_tellR hr (by omega) (fun T hT hrT => zn ?_)
      rw [zw_suc (by omega)]
      refine ih (i + 1) T (r ++ [a0 i]) (by omega) (fun j hj => by rw [hT j hj, hN j hj]) hrT (by simp [hl]) ?_
      rw [he, List.append_assoc]
      show r ++ (a0 (m - (k + 1)) :: mf_sf m a0 k) = _
      rw [show m - (k + 1) = i from by omega]
      rfl
  have Sall : ∀ a, pt_all Q a → pt_S Q a (2 ^ m - 1) := fun a ha => by
    refine ⟨by rw [em]; omega, fun i hi => ?_⟩
    obtain ⟨s, g1, g2, _⟩ := ha i hi
    rw [Nat.testBit_two_pow_sub_one, decide_eq_true (by omega)]
    exact ⟨fun _ => by omega, fun _ => rfl⟩
  -- the stalls
  have road : (∀ k : Nat, k < m → S.1 2 (c.getD k 0) = -1) → ∀ (k j : Nat) (N : zM), j + k = n → zEo N μ → pt_I Q j (fun t => N 65 (t : Int)) → (∀ t : Nat, t < 2 ^ m → 0 ≤ N 65 (t : Int) ∧ N 65 (t : Int) ≤ 1152921504606846976) → zT g d mX0_bestPut K 83 [some (.inr (.inr ((0, 0), 62))), some (.inl ((2 ^ m - 1 : Nat) : Int)), some (.inl (j : Int))] [] N := by
    intro hroad k
    induction k with
    | zero =>
      intro j N hj hN hIj hbd
      obtain rfl : j = n := by omega
      refine sX0_bestPut_83 ⟨fun _ => ⟨by omega, ?_⟩, fun q => by rw [hN 1 (by omega), ev.1, en] at q; omega⟩
      rw [zcmp_0.1, zcmp_0.2]
      refine ⟨fun q => ⟨by omega, c_emptyR (fun P hP hr => zn ?_)⟩, fun q => ?_⟩
      · obtain ⟨a, g1, g2, g3⟩ := hIj.2 (2 ^ m - 1) (by rw [em]; omega) q
        have alla : pt_all Q a := fun i hi => by
          rw [enQ]
          refine (g1 i hi).resolve_left ((g2.2 i hi).1 ?_)
          rw [Nat.testBit_two_pow_sub_one, decide_eq_true (by omega)]
        have oa := (opt1 a alla).2
        have sa := sumb a alla
        have hlt : pt_W Q m pt_z0 < 1000000 := by omega
        obtain ⟨a0, all0, hsf, hsum, best⟩ := opt2 hlt
        have b1 := best a alla
        have b2 := hIj.1 a0 (2 ^ m - 1) (fun i hi => Or.inr (by rw [← enQ]; exact all0 i hi)) (Sall a0 all0)
        have g3 : pt_cost Q a = N 65 ((2 ^ m - 1 : Nat) : Int) := g3
        have b2 : N 65 ((2 ^ m - 1 : Nat) : Int) ≤ pt_cost Q a0 := b2
        exact tell a0 N hlt all0 hsf hsum hN (by omega) m 0 P [] (by omega) hP hr rfl (by rw [← hsf]; rfl)
      · have no : ¬ pt_W Q m pt_z0 < 1000000 := fun hlt => by
          obtain ⟨a0, all0, hsf, hsum, best⟩ := opt2 hlt
          have b2 : N 65 ((2 ^ m - 1 : Nat) : Int) ≤ pt_cost Q a0 := hIj.1 a0 (2 ^ m - 1) (fun i hi => Or.inr (by rw [← enQ]; exact all0 i hi)) (Sall a0 all0)
          have o := (opt1 a0 all0).1
          have ce := pt_cost_eq all0
          omega
        rw [if_neg no] at h
        exact h N (fun j hj => hN j (by omega)) (hC.scr (fun j hj1 => hN j (by unfold z_scr at hj1; omega)))
    | succ k ih =>
      intro j N hj hN hIj hbd
      have jn : j < n := by omega
      have v8 : N 4 (j : Int) = S.1 8 (j : Int) := by
        rw [hN 4 (by omega), ← hC.1.1]
        exact (y_in (by omega)).symm
      have v0 : N 21 (j : Int) = S.1 0 (j : Int) := by
        rw [hN 21 (by omega)]
        exact (hC.st (by omega)).1
      have skip : ¬ (S.1 8 (j : Int) = 0 ∧ S.1 0 (j : Int) = -1) → zT g d mX0_bestPut K 83 [some (.inr (.inr ((0, 0), 62))), some (.inl ((2 ^ m - 1 : Nat) : Int)), some (.inl (zw ((j : Int) + 1)))] [] N := fun hno => by
        rw [zw_suc (by omega)]
        refine ih (j + 1) N (by omega) hN (pt_I_skip hIj (ct0 j jn) (fun i hi => ?_)) hbd
        rw [eB]
        unfold pu_o
        rw [decide_eq_false (fun hh => hno ⟨hh.2.2.2.1, hh.2.1⟩), Bool.false_and]
      refine sX0_bestPut_83 ⟨fun q => by rw [hN 1 (by omega), ev.1, en] at q; omega, fun _ => ⟨by omega, ?_⟩⟩
      rw [v8, v0]
      refine ⟨fun q => skip (fun hh => q hh.1), fun q => ⟨fun q2 => skip (fun hh => q2 hh.2), fun q2 => ⟨by omega, ?_⟩⟩⟩
      have front : S.1 1 (j : Int) = -1 := by
        by_cases z : S.1 1 (j : Int) = -1
        · exact z
        · exact absurd q2 ((hW.2.2.1 (j : Int) (by omega)).2.2.2 z).2.1
      have po : ∀ i : Nat, i < m → pu_o S.1 (c.getD i 0) j = decide (S.1 9 (c.getD i 0) ≤ S.1 6 (j : Int)) := fun i hi => by
        unfold pu_o
        have := hroad i hi
        by_cases z : S.1 9 (c.getD i 0) ≤ S.1 6 (j : Int)
        · rw [decide_eq_true z, decide_eq_true ⟨this, q2, front, q, z⟩]
        · rw [decide_eq_false z, decide_eq_false (fun hh => z hh.2.2.2.2)]
      refine c_offerStall (Q := Q) (m := m) (n := n) (s := j) (c := fun k => c.getD k 0) (l := l) (Y := S.1) (by omega) ?_ hW hI.R (zrl_same hC.1.2.1 (hN 12 (by omega))) (by rw [hN 1 (by omega), ev.1, en]) n23 (by rw [hN 62 (by omega)]; exact m4) (by omega) (fun k hk => by rw [hN 63 (by omega)]; exact cr k hk) (fun e he => by rw [hN 64 (by omega)]; exact b0.2.2 e he) jn em (fun i hi => by rw [eB, po i hi]) (fun i hi => by rw [eF, po i hi]) (fun i k _ _ => eG i k j) (fun i => cts i j) hbd (fun N' hN' hrel => zn ?_)
      · rw [← hC.1.1]
        exact vC_off (by omega) hC.1.2.1 (fun x hx => hN x (by omega))
      · rw [zw_suc (by omega)]
        refine ih (j + 1) N' (by omega) (fun x hx => by rw [hN' x hx]; exact hN x hx) (pt_I_step hIj hrel (ct0 j jn)) (fun t ht => ?_)
        obtain ⟨r1, _, r3⟩ := hrel t (by rw [em]; exact ht)
        have r1 : N' 65 (t : Int) ≤ N 65 (t : Int) := r1
        have b1 := hbd t ht
        rcases r3 with r3 | ⟨sub, bits, w', hk, hs, _, _, r3⟩
        · have r3 : N' 65 (t : Int) = N 65 (t : Int) := r3
          omega
        · have r3 : N' 65 (t : Int) = N 65 (sub : Int) + w' := r3
          have b2 := hbd sub (by rw [← em]; exact hs)
          have w0 : 0 ≤ w' := by
            rcases hk with ⟨i, _, _, _, e⟩ | ⟨i, i', _, _, _, _, _, _, e⟩
            · have := ct0 j jn i
              omega
            · have := ct0 j jn i
              have := ct0 j jn i'
              omega
          omega
  -- are they on the road
  have first : ∀ (k i : Nat), i + k = m → (∀ t : Nat, t < i → S.1 2 (c.getD t 0) = -1) → zT g d mX0_bestPut K 22 [some (.inr (.inr ((0, 0), 62))), some (.inl (i : Int)), none] [] μ := by
    intro k
    induction k with
    | zero =>
      intro i hi hroad
      obtain rfl : i = m := by omega
      refine sX0_bestPut_22 ⟨fun _ => ⟨by omega, c_fillL (by omega) (fun M hM hfar => zn ?_)⟩, fun q => by omega⟩
      rw [m4, zshl_1 (by omega), show ((i : Int)).toNat = i from by omega, zwi (x := ((2 ^ i : Nat) : Int) - 1) (by omega) (by omega), show ((2 ^ i : Nat) : Int) - 1 = ((2 ^ i - 1 : Nat) : Int) from by omega]
      have f1 : ∀ t : Nat, t < 2 ^ i → ¬ t = 0 → zU M 65 0 0 65 (t : Int) = 1152921504606846976 := fun t ht h0 => by
        rw [zU_ne (by omega)]
        exact hfar _ (by omega)
      have f0 : zU M 65 0 0 65 ((0 : Nat) : Int) = 0 := zU_eq
      refine road hroad n 0 _ (by omega) (fun j hj => by rw [zU_off j (by omega)]; exact hM j (by omega)) (pt_I_0 f0 (fun t ht h0 => f1 t (by rw [← em]; exact ht) h0)) (fun t ht => ?_)
      by_cases z : t = 0
      · rw [z, f0]
        omega
      · rw [f1 t ht z]
        omega
    | succ k ih =>
      intro i hi hroad
      obtain ⟨c1, c2⟩ := cr i (by omega)
      have v2 : μ 23 (c.getD i 0) = S.1 2 (c.getD i 0) := (hC.en c2).1
      refine sX0_bestPut_22 ⟨fun q => by omega, fun _ => ⟨by omega, by omega, ?_⟩⟩
      rw [c1]
      refine c_onRoad c2 (fun q => zb1 ?_) (fun q => zb0 ?_)
      · have q : μ 23 (c.getD i 0) = -1 := q
        rw [zw_suc (by omega)]
        refine ih (i + 1) (by omega) (fun t ht => ?_)
        by_cases z : t = i
        · rw [z, ← v2]
          exact q
        · exact hroad t (by omega)
      · have q : ¬ μ 23 (c.getD i 0) = -1 := q
        rw [v2] at q
        have no : ¬ pt_W Q m pt_z0 < 1000000 := fun hlt => by
          obtain ⟨a0, all0, _⟩ := opt2 hlt
          obtain ⟨s, hs, _, hor⟩ := all0 i (by rw [em]; omega)
          have pf : pu_o S.1 (c.getD i 0) s = false := decide_eq_false (fun hh => q hh.1)
          rcases hor with ⟨_, hB⟩ | ⟨_, _, _, _, hF, _⟩
          · rw [eB, pf, Bool.false_and] at hB
            cases hB
          · rw [eF, pf, Bool.false_and] at hF
            cases hF
        rw [if_neg no] at h
        exact h μ (zEc.refl μ) hC
  exact sX0_bestPut ⟨fun q => by omega, fun _ => ⟨fun _ => first m 0 (by omega) (fun t ht => by omega), fun q => by omega⟩⟩
theorem C_put (hd : 6 ≤ d) (hC : cS μ S) (hI : iS nn S) (h : ∀ μ', zEc μ' μ → cS μ' (o_put S).2 → K (some (.inl (o_put S).1)) μ') : zCall g d 134 [.inr (.inr ((0, 11), 0))] μ K :=
  sX11_put ⟨by omega, c_bestPut (by omega) hC hI (fun μ' e c => zi (h μ' e c))⟩
end
