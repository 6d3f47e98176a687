-- needs 9m
/-! most, fails: the reference's calls -/
theorem zshl_12 : ∀ t : Nat, t < 10 → zshl (t : Int) 12 = ((4096 * t : Nat) : Int) := by decide +kernel
theorem mf_w_b (P : zMf) (t : Nat) (c : Int) : -1 ≤ mf_w P t c ∧ mf_w P t c ≤ 16 := by
  unfold mf_w mf_p
  split <;> split <;> omega
theorem mf_W_b (P : zMf) : ∀ (k s : Nat), -(k : Int) ≤ mf_W P k s ∧ mf_W P k s ≤ 16 * (k : Int)
  | 0, _ => ⟨by simp [mf_W], by simp [mf_W]⟩
  | k + 1, s => by
    have g := mf_W_ge0 (P := P) (k := k) (s := s)
    have a := mf_W_b P k s
    have b := mf_w_b P (mf_n P - (k + 1)) (-1)
    refine ⟨by omega, ?_⟩
    rcases mf_W_is (P := P) (k := k) (s := s) with h | ⟨e, _, _, h⟩
    · omega
    · have c := mf_W_b P k (s ||| 2 ^ e)
      have d := mf_w_b P (mf_n P - (k + 1)) (e : Int)
      omega
theorem mf_W_t {P : zMf} {t s : Nat} (ht : t < mf_n P) : mf_W P (mf_n P - t) s = z_lp (fun e v => if s.testBit e = true ∨ mf_k P t e = false then v else max v (mf_W P (mf_n P - (t + 1)) (s ||| 2 ^ e) + mf_w P t (e : Int))) (mf_E P) 0 (mf_W P (mf_n P - (t + 1)) s + mf_w P t (-1)) := by
  obtain ⟨k, hk⟩ : ∃ k, mf_n P - t = k + 1 := ⟨mf_n P - t - 1, by omega⟩
  have e1 : mf_n P - (t + 1) = k := by omega
  have e2 : t = mf_n P - (k + 1) := by omega
  rw [hk, e1]
  rw [e2]
  rfl
def o_most (S : zS) : Int × zS := (Int.tdiv (mf_W (S.1, zX S, -1, 0, (zX S 8 0).toNat, (S.1 13 3).toNat) (zX S 8 0).toNat 0) 16, sR S (mf_R (S.1, zX S, -1, 0, (zX S 8 0).toNat, (S.1 13 3).toNat) (zX S 8 0).toNat 0))
def o_fails (S : zS) (x : Int) : Int × zS := if 0 ≤ x ∧ x < S.1 13 3 then (16 * Int.tdiv (mf_W (S.1, zX S, x, 1, (zX S 8 0).toNat, (S.1 13 3).toNat) (zX S 8 0).toNat 0 + 15) 16 - mf_W (S.1, zX S, x, 1, (zX S 8 0).toNat, (S.1 13 3).toNat) (zX S 8 0).toNat 0, sR S (Int.tdiv (mf_W (S.1, zX S, x, 1, (zX S 8 0).toNat, (S.1 13 3).toNat) (zX S 8 0).toNat 0 + 15) 16 :: mf_R (S.1, zX S, x, 1, (zX S 8 0).toNat, (S.1 13 3).toNat) (zX S 8 0).toNat 0)) else (-1, S)
section
variable {g : zG} {d : Nat} {K : Option zV → zM → Prop} {μ Y X : zM} {co : Int → Int} {cn wo pl c nn x : Int} {n E t : Nat} {S : zS}
theorem m_worthOf (ht : t < 8) (h135 : μ 135 (t : Int) = X 7 (t : Int)) (h : K (some (.inl (mf_w (Y, X, wo, pl, n, E) t c))) μ) : zCall g d 254 [.inr (.inr ((0, 12), 119)), .inl (t : Int), .inl c, .inl pl] μ K := by
  unfold mf_w mf_p at h
  simp only [] at h
  refine sX12_worthOf ⟨fun q => ⟨fun q1 => ?_, fun q1 => ⟨by omega, fun q2 => ?_, fun q2 => ?_⟩⟩, fun q => ⟨fun q1 => ?_, fun q1 => ⟨by omega, fun q2 => ?_, fun q2 => ?_⟩⟩⟩
  · rw [if_neg q, if_neg (fun hh => hh.1 q1)] at h; exact h
  · rw [h135] at q2
    rw [if_neg q, if_neg (fun hh => hh.2 q2)] at h; exact h
  · rw [h135] at q2
    rw [if_neg q, if_pos ⟨q1, q2⟩] at h; exact h
  · rw [if_pos q, if_neg (fun hh => hh.1 q1)] at h; exact h
  · rw [h135] at q2
    rw [if_pos q, if_neg (fun hh => hh.2 q2)] at h; exact h
  · rw [h135] at q2
    rw [if_pos q, if_pos ⟨q1, q2⟩] at h; exact h
theorem m_findRows (hd : 3 ≤ d) (hv : vM μ co cn = Y) (hW : y_W Y) (hN : mN μ X) (hi : iN Y X) (hn : X 8 0 = (n : Int)) (hE : Y 13 3 = (E : Int))
    (h : ∀ μ', (∀ j, ¬ j = 156 → μ' j = μ j) → (∀ t s : Nat, t ≤ n → s < 2 ^ E → μ' 156 ((4096 * t + s : Nat) : Int) = mf_W (Y, X, wo, pl, n, E) (n - t) s) → K (some (.inl (mf_W (Y, X, wo, pl, n, E) n 0))) μ') : zCall g d 255 [.inr (.inr ((0, 12), 119)), .inl wo, .inl pl] μ K := by
  have w := hW.1
  have i1 := hi.1
  have n8 : n ≤ 8 := by omega
  have E12 : E ≤ 12 := by omega
  have p2 := p2_12 E12
  have pp := Nat.two_pow_pos E
  have m6 : μ 119 6 = (E : Int) := by
    have : vM μ co cn 13 3 = μ 119 6 := by simp only [vM]; rfl
    rw [← this, hv, hE]
  have m18 : μ 119 18 = (n : Int) := hN.1.trans hn
  have h135 : ∀ t : Nat, t < n → μ 135 (t : Int) = X 7 (t : Int) := fun t ht => (hN.2 (t : Int) (by omega)).2.2.2
  obtain ⟨P, hP⟩ : ∃ P : zMf, (Y, X, wo, pl, n, E) = P := ⟨_, rfl⟩
  have en : mf_n P = n := by rw [← hP]; rfl
  have eE : mf_E P = E := by rw [← hP]; rfl
  rw [hP] at h
  have ad : ∀ t s : Nat, t < 10 → s < 4096 → zw (zshl (t : Int) 12 + (s : Int)) = ((4096 * t + s : Nat) : Int) := fun t s ht hs => by rw [zshl_12 t ht, zwi (x := ((4096 * t : Nat) : Int) + (s : Int)) (by omega) (by omega)]; omega
  refine sX12_findRows ?_
  rw [m6, m18, zshl_1 (by omega), show ((E : Int)).toNat = E from by omega]
  -- one train behind another, from the last on
  have outer : ∀ (t' : Nat) (N : zM), t' ≤ n + 1 → (∀ j, ¬ j = 156 → N j = μ j) → (∀ t s : Nat, t' ≤ t → t ≤ n → s < 2 ^ E → N 156 ((4096 * t + s : Nat) : Int) = mf_W P (n - t) s) → zT g d mX12_findRows K 13 [some (.inr (.inr ((0, 12), 119))), some (.inl wo), some (.inl pl), some (.inl ((2 ^ E : Nat) : Int)), some (.inl ((t' : Int) - 1)), none, none, none] [] N := by
    intro t'
    induction t' with
    | zero =>
      intro N _ hN' hWt
      refine sX12_findRows_13 ⟨fun _ => ?_, fun q => by omega⟩
      have := hWt 0 0 (by omega) (by omega) pp
      rw [show ((4096 * 0 + 0 : Nat) : Int) = 0 from rfl, Nat.sub_zero] at this
      rw [this]
      exact h N hN' (fun t s ht hs => hWt t s (by omega) ht hs)
    | succ t ih =>
      intro N htn hN' hWt
      refine sX12_findRows_13 ⟨fun q => by omega, fun _ => ?_⟩
      rw [show ((t + 1 : Nat) : Int) - 1 = (t : Int) from by omega]
      have tn : t ≤ n := by omega
      -- the sets
      have sets : ∀ (c s : Nat) (N : zM), s + c = 2 ^ E → (∀ j, ¬ j = 156 → N j = μ j) → (∀ t1 s1 : Nat, t + 1 ≤ t1 → t1 ≤ n → s1 < 2 ^ E → N 156 ((4096 * t1 + s1 : Nat) : Int) = mf_W P (n - t1) s1) → (∀ s1 : Nat, s1 < s → N 156 ((4096 * t + s1 : Nat) : Int) = mf_W P (n - t) s1) → zT g d mX12_findRows K 21 [some (.inr (.inr ((0, 12), 119))), some (.inl wo), some (.inl pl), some (.inl ((2 ^ E : Nat) : Int)), some (.inl (t : Int)), some (.inl (s : Int)), none, none] [] N := by
        intro c
        induction c with
        | zero =>
          intro s N hs hN' hhi hlo
          refine sX12_findRows_21 ⟨fun _ => ?_, fun q => by omega⟩
          rw [show (t : Int) + -1 = (t : Int) - 1 from by omega, zwi (x := (t : Int) - 1) (by omega) (by omega)]
          refine ih N (by omega) hN' (fun t1 s1 h1 h2 h3 => ?_)
          rcases Nat.lt_or_ge t t1 with q | q
          · exact hhi t1 s1 (by omega) h2 h3
          · obtain rfl : t1 = t := by omega
            exact hlo s1 (by omega)
        | succ c ihc =>
          intro s N hs hN' hhi hlo
          have s4 : s < 4096 := by omega
          -- it is written down
          have put : ∀ (N2 : zM) (v : Int), (∀ j, N2 j = N j) → v = mf_W P (n - t) s → (0 ≤ zw (zshl (t : Int) 12 + (s : Int)) ∧ zw (zshl (t : Int) 12 + (s : Int)) < 36864) ∧ zT g d mX12_findRows K 21 [some (.inr (.inr ((0, 12), 119))), some (.inl wo), some (.inl pl), some (.inl ((2 ^ E : Nat) : Int)), some (.inl (t : Int)), some (.inl (zw ((s : Int) + 1))), none, none] [] (zU N2 156 (zw (zshl (t : Int) 12 + (s : Int))) v) := by
            intro N2 v h2 hvv
            rw [ad t s (by omega) s4, zw_suc (by omega)]
            refine ⟨by omega, ihc (s + 1) _ (by omega) (fun j hj => by rw [zU_off j hj, h2]; exact hN' j hj) (fun t1 s1 a b c => ?_) (fun s1 a => ?_)⟩
            · rw [zU_ne (by omega), h2]
              exact hhi t1 s1 a b c
            · rcases Nat.lt_or_ge s1 s with q | q
              · rw [zU_ne (by omega), h2]
                exact hlo s1 q
              · obtain rfl : s1 = s := by omega
                rw [zU_eq]
                exact hvv
          refine sX12_findRows_21 ⟨fun q => by omega, fun _ => ⟨fun q => ?_, fun q => ?_⟩⟩
          · rw [hN' 119 (by omega), m18] at q
            have tlt : t < n := by omega
            rw [show (t : Int) + 1 = ((t + 1 : Nat) : Int) from by omega, zwi (x := ((t + 1 : Nat) : Int)) (by omega) (by omega), ad (t + 1) s (by omega) s4]
            refine ⟨by omega, by omega, m_worthOf (Y := Y) (X := X) (wo := wo) (n := n) (E := E) (by omega) (by rw [hN' 135 (by omega)]; exact h135 t tlt) (zi ?_)⟩
            rw [hP, hhi (t + 1) s (by omega) (by omega) (by omega)]
            have bW := mf_W_b P (n - (t + 1)) s
            have bw := mf_w_b P t (-1)
            rw [zwi (x := mf_W P (n - (t + 1)) s + mf_w P t (-1)) (by omega) (by omega)]
            have tl : t < mf_n P := by rw [en]; exact tlt
            have eW := mf_W_t (P := P) (t := t) (s := s) tl
            rw [en, eE] at eW
            -- the engines
            have engs : ∀ (c e : Nat) (v : Int), e + c = E → -20 ≤ v ∧ v ≤ 200 → mf_W P (n - t) s = z_lp (fun e v => if s.testBit e = true ∨ mf_k P t e = false then v else max v (mf_W P (n - (t + 1)) (s ||| 2 ^ e) + mf_w P t (e : Int))) c e v → zT g d mX12_findRows K 69 [some (.inr (.inr ((0, 12), 119))), some (.inl wo), some (.inl pl), some (.inl ((2 ^ E : Nat) : Int)), some (.inl (t : Int)), some (.inl (s : Int)), some (.inl v), some (.inl (e : Int))] [] N := by
              intro c
              induction c with
              | zero =>
                intro e v he hvb hz
                have hz : mf_W P (n - t) s = v := hz
                exact sX12_findRows_69 ⟨fun _ => put N v (fun _ => rfl) hz.symm, fun q => by rw [hN' 119 (by omega), m6] at q; omega⟩
              | succ c ihe =>
                intro e v he hvb hz
                have eE' : e < E := by omega
                have next : ∀ v' : Int, -20 ≤ v' ∧ v' ≤ 200 → (if s.testBit e = true ∨ mf_k P t e = false then v else max v (mf_W P (n - (t + 1)) (s ||| 2 ^ e) + mf_w P t (e : Int))) = v' → zT g d mX12_findRows K 69 [some (.inr (.inr ((0, 12), 119))), some (.inl wo), some (.inl pl), some (.inl ((2 ^ E : Nat) : Int)), some (.inl (t : Int)), some (.inl (s : Int)), some (.inl v'), some (.inl (zw ((e : Int) + 1)))] [] N := by
                  intro v' hb' e'
                  rw [zw_suc (by omega)]
                  refine ihe (e + 1) v' (by omega) hb' ?_
                  rw [hz, ← e']
                  rfl
                have tst : zand (zshr (s : Int) (e : Int)) 1 = if s.testBit e then 1 else 0 := by
                  have := z_tst (m := s) (e := (e : Int)) (by omega) (by omega)
                  rw [show ((e : Int)).toNat = e from by omega] at this
                  exact this
                have kk : mf_k P t e = (decide (¬ (e : Int) = wo) && f_fit Y X (e : Int) (t : Int)) := by rw [← hP]; rfl
                refine sX12_findRows_69 ⟨fun q => by rw [hN' 119 (by omega), m6] at q; omega, fun _ => ⟨fun q => by rw [hN' 119 (by omega), m18] at q; omega, fun _ => ⟨fun q => ?_, fun q => ⟨fun q2 => ?_, fun q2 => ⟨by omega, ?_⟩⟩⟩⟩⟩
                · have b : s.testBit e = true := by
                    rw [tst] at q
                    by_cases hb : s.testBit e = true
                    · exact hb
                    · rw [if_neg hb] at q; omega
                  exact next v hvb (if_pos (Or.inl b))
                · refine next v hvb (if_pos (Or.inr ?_))
                  rw [kk, decide_eq_false (fun hh => hh q2), Bool.false_and]
                · have b : s.testBit e = false := by
                    rw [tst] at q
                    cases hb : s.testBit e
                    · rfl
                    · rw [if_pos hb] at q; exact absurd rfl q
                  have vN : vM N co cn = Y := by
                    rw [← hv]
                    exact vM_same (fun j _ _ => hN' j (by omega)) (fun i _ => by rw [hN' 119 (by omega)])
                  have mNN : mN N X := hN.same (by rw [hN' 119 (by omega)]) (fun j _ _ => hN' j (by omega))
                  refine m_isFit (X := X) (Y := Y) (co := co) (cn := cn) (by rw [vN]; exact hW) mNN hi (by omega) (by omega) (fun f1 => zb1 ?_) (fun f1 => zb0 (next v hvb (if_pos (Or.inr ?_))))
                  · rw [vN] at f1
                    have or4 : s ||| 2 ^ e < 2 ^ E := Nat.or_lt_two_pow (by omega) (Nat.pow_lt_pow_right (by omega) eE')
                    have ee : zor (s : Int) (zshl 1 (e : Int)) = ((s ||| 2 ^ e : Nat) : Int) := by
                      have : 2 ^ e < 2 ^ 12 := Nat.pow_lt_pow_right (by omega) (by omega)
                      rw [zshl_1 (by omega), show ((e : Int)).toNat = e from by omega, zor_nat (by omega) (by omega)]
                    rw [ee, show (t : Int) + 1 = ((t + 1 : Nat) : Int) from by omega, zwi (x := ((t + 1 : Nat) : Int)) (by omega) (by omega), ad (t + 1) (s ||| 2 ^ e) (by omega) (by omega)]
                    refine ⟨by omega, m_worthOf (Y := Y) (X := X) (wo := wo) (n := n) (E := E) (by omega) (by rw [hN' 135 (by omega)]; exact h135 t tlt) (zi ?_)⟩
                    rw [hP, hhi (t + 1) (s ||| 2 ^ e) (by omega) (by omega) or4]
                    have bW2 := mf_W_b P (n - (t + 1)) (s ||| 2 ^ e)
                    have bw2 := mf_w_b P t (e : Int)
                    rw [zwi (x := mf_W P (n - (t + 1)) (s ||| 2 ^ e) + mf_w P t (e : Int)) (by omega) (by omega)]
                    refine next _ (by omega) (if_neg ?_)
                    rw [b, kk, f1, decide_eq_true q2]
                    simp
                  · rw [vN] at f1
                    rw [kk, f1, Bool.and_false]
            exact engs E 0 _ (by omega) (by omega) eW
          · rw [hN' 119 (by omega), m18] at q
            obtain rfl : t = n := by omega
            have e0 : mf_W P (t - t) s = 0 := by rw [Nat.sub_self]; rfl
            refine sX12_findRows_69 ⟨fun _ => put N 0 (fun _ => rfl) e0.symm, fun _ => ⟨fun _ => put N 0 (fun _ => rfl) e0.symm, fun q => by rw [hN' 119 (by omega), m18] at q; omega⟩⟩
      exact sets (2 ^ E) 0 N (by omega) hN' (fun t1 s1 a b c => hWt t1 s1 a b c) (fun s1 hs1 => by omega)
  have := outer (n + 1) μ (by omega) (fun _ _ => rfl) (fun t s a b => by omega)
  rw [show ((n + 1 : Nat) : Int) - 1 = (n : Int) from by omega] at this
  exact this
end
