-- needs 9n
/-! most, fails: the reference tells the row -/
theorem mf_c_t {P : zMf} {t s : Nat} (ht : t < mf_n P) : mf_c P (mf_n P - (t + 1)) s = z_lp (fun e q => if q.2 = true then q else if s.testBit e = true ∨ mf_k P t e = false then q else ((e : Int), decide (mf_W P (mf_n P - (t + 1)) (s ||| 2 ^ e) + mf_w P t (e : Int) = mf_W P (mf_n P - t) s))) (mf_E P) 0 (-1, decide (mf_W P (mf_n P - (t + 1)) s + mf_w P t (-1) = mf_W P (mf_n P - t) s)) := by
  have e1 : mf_n P - t = mf_n P - (t + 1) + 1 := by omega
  have e2 : mf_n P - (mf_n P - (t + 1) + 1) = t := by omega
  unfold mf_c
  rw [e1, e2]
theorem mf_R_t {P : zMf} {t s : Nat} (ht : t < mf_n P) : mf_R P (mf_n P - t) s = (mf_c P (mf_n P - (t + 1)) s).1 :: mf_R P (mf_n P - (t + 1)) (mf_s s (mf_c P (mf_n P - (t + 1)) s).1) := by
  have e1 : mf_n P - t = mf_n P - (t + 1) + 1 := by omega
  rw [e1]
  rfl
theorem td16 {W : Int} (h : -300 ≤ W ∧ W ≤ 300) : -20 ≤ Int.tdiv W 16 ∧ Int.tdiv W 16 ≤ 20 := by
  by_cases q : 0 ≤ W
  · rw [Int.tdiv_eq_ediv_of_nonneg q]
    omega
  · obtain ⟨a, ha⟩ : ∃ a, W = -a := ⟨-W, by omega⟩
    rw [ha, Int.neg_tdiv, Int.tdiv_eq_ediv_of_nonneg (by omega)]
    omega
theorem mf_c_r {P : zMf} {k s : Nat} : (mf_c P k s).1 = -1 ∨ ∃ e : Nat, e < mf_E P ∧ (mf_c P k s).1 = (e : Int) := by
  rcases mf_c_is (P := P) (k := k) (s := s) with ⟨h, _⟩ | ⟨_, e, he, h, _⟩
  · exact Or.inl h
  · exact Or.inr ⟨e, he, h⟩
section
variable {g : zG} {d : Nat} {K : Option zV → zM → Prop} {μ Y X : zM} {co : Int → Int} {cn wo pl nn x : Int} {n E : Nat} {S : zS} {pre : List Int}
theorem m_tellRow (hd : 3 ≤ d) (hv : vM μ co cn = Y) (hW : y_W Y) (hN : mN μ X) (hi : iN Y X) (hn : X 8 0 = (n : Int)) (hE : Y 13 3 = (E : Int)) (h156 : ∀ t s : Nat, t ≤ n → s < 2 ^ E → μ 156 ((4096 * t + s : Nat) : Int) = mf_W (Y, X, wo, pl, n, E) (n - t) s) (hr : mR μ pre) (hp : pre.length ≤ 1)
    (h : ∀ μ', zE32 μ' μ → mR μ' (pre ++ mf_R (Y, X, wo, pl, n, E) n 0) → K none μ') : zCall g d 256 [.inr (.inr ((0, 12), 119)), .inl wo, .inl pl] μ K := by
  have w := hW.1
  have i1 := hi.1
  have n8 : n ≤ 8 := by omega
  have E12 : E ≤ 12 := by omega
  have p2 := p2_12 E12
  have pp := Nat.two_pow_pos E
  have m6 : μ 119 6 = (E : Int) := by
    have : vM μ co cn 13 3 = μ 119 6 := by simp only [vM]; rfl
    rw [← this, hv, hE]
  have m18 : μ 119 18 = (n : Int) := hN.1.trans hn
  have h135 : ∀ t : Nat, t < n → μ 135 (t : Int) = X 7 (t : Int) := fun t ht => (hN.2 (t : Int) (by omega)).2.2.2
  obtain ⟨P, hP⟩ : ∃ P : zMf, (Y, X, wo, pl, n, E) = P := ⟨_, rfl⟩
  have en : mf_n P = n := by rw [← hP]; rfl
  have eE : mf_E P = E := by rw [← hP]; rfl
  rw [hP] at h h156
  have ad : ∀ t s : Nat, t < 10 → s < 4096 → zw (zshl (t : Int) 12 + (s : Int)) = ((4096 * t + s : Nat) : Int) := fun t s ht hs => by rw [zshl_12 t ht, zwi (x := ((4096 * t : Nat) : Int) + (s : Int)) (by omega) (by omega)]; omega
  refine sX12_tellRow ?_
  have outer : ∀ (k t s : Nat) (N : zM) (r : List Int), t + k = n → s < 2 ^ E → zE32 N μ → mR N r → r.length ≤ 1 + t → pre ++ mf_R P n 0 = r ++ mf_R P (n - t) s → zT g d mX12_tellRow K 5 [some (.inr (.inr ((0, 12), 119))), some (.inl wo), some (.inl pl), some (.inl (s : Int)), some (.inl (t : Int)), none, none, none] [] N := by
    intro k
    induction k with
    | zero =>
      intro t s N r ht hs hNE hrN hl he
      obtain rfl : t = n := by omega
      rw [Nat.sub_self] at he
      have he : pre ++ mf_R P t 0 = r ++ [] := he
      rw [List.append_nil] at he
      refine sX12_tellRow_5 ⟨fun _ => h N hNE (by rw [he]; exact hrN), fun q => by rw [hNE.2 18 (by omega), m18] at q; omega⟩
    | succ k ih =>
      intro t s N r ht hs hNE hrN hl he
      have tn : t < n := by omega
      have s4 : s < 4096 := by omega
      have tl : t < mf_n P := by rw [en]; exact tn
      have ec := mf_c_t (P := P) (t := t) (s := s) tl
      have eR := mf_R_t (P := P) (t := t) (s := s) tl
      rw [en] at ec eR
      rw [eE] at ec
      have n156 : N 156 = μ 156 := hNE.1 156 (by omega)
      have wt := h156 t s (by omega) hs
      have wt1 := h156 (t + 1) s (by omega) hs
      -- it is told
      have tell : ∀ q : Int × Bool, q = mf_c P (n - (t + 1)) s → (q.1 = -1 → (0 < d) ∧ zCall g (d - 1) 163 [.inr (.inr ((0, 12), 119)), .inl q.1] N (zNn fun μ1 => zT g d mX12_tellRow K 5 [some (.inr (.inr ((0, 12), 119))), some (.inl wo), some (.inl pl), some (.inl (s : Int)), some (.inl (zw ((t : Int) + 1))), none, none, none] [] μ1)) ∧ (¬ q.1 = -1 → (0 < d) ∧ zCall g (d - 1) 163 [.inr (.inr ((0, 12), 119)), .inl q.1] N (zNn fun μ2 => zT g d mX12_tellRow K 5 [some (.inr (.inr ((0, 12), 119))), some (.inl wo), some (.inl pl), some (.inl (zor (s : Int) (zshl 1 q.1))), some (.inl (zw ((t : Int) + 1))), none, none, none] [] μ2)) := by
        intro q hq
        have rng := mf_c_r (P := P) (k := n - (t + 1)) (s := s)
        rw [← hq] at rng
        rw [← hq] at eR
        refine ⟨fun q1 => ⟨by omega, m_tellR hrN (by omega) (fun T hT hrT => zn ?_)⟩, fun q1 => ⟨by omega, m_tellR hrN (by omega) (fun T hT hrT => zn ?_)⟩⟩
        · rw [zw_suc (by omega)]
          refine ih (t + 1) s T (r ++ [q.1]) (by omega) hs (hT.trans hNE) hrT (by simp; omega) ?_
          rw [he, eR, show mf_s s q.1 = s from if_pos q1, List.append_assoc]
          rfl
        · rcases rng with rng | ⟨e, he', rng⟩
          · exact absurd rng q1
          · rw [eE] at he'
            have : 2 ^ e < 2 ^ 12 := Nat.pow_lt_pow_right (by omega) (by omega)
            have ee : zor (s : Int) (zshl 1 q.1) = ((s ||| 2 ^ e : Nat) : Int) := by
              rw [rng, zshl_1 (by omega), show ((e : Int)).toNat = e from by omega, zor_nat (by omega) (by omega)]
            rw [zw_suc (by omega), ee]
            refine ih (t + 1) (s ||| 2 ^ e) T (r ++ [q.1]) (by omega) (Nat.or_lt_two_pow hs (Nat.pow_lt_pow_right (by omega) he')) (hT.trans hNE) hrT (by simp; omega) ?_
            have es : mf_s s q.1 = s ||| 2 ^ e := by
              unfold mf_s
              rw [if_neg q1, rng, show ((e : Int)).toNat = e from by omega]
            rw [he, eR, es, List.append_assoc]
            rfl
      have engs : ∀ (c e : Nat) (q : Int × Bool), e + c = E → mf_c P (n - (t + 1)) s = z_lp (fun e q => if q.2 = true then q else if s.testBit e = true ∨ mf_k P t e = false then q else ((e : Int), decide (mf_W P (n - (t + 1)) (s ||| 2 ^ e) + mf_w P t (e : Int) = mf_W P (n - t) s))) c e q → zT g d mX12_tellRow K 65 [some (.inr (.inr ((0, 12), 119))), some (.inl wo), some (.inl pl), some (.inl (s : Int)), some (.inl (t : Int)), some (.inl q.1), some (.inl (zB q.2)), some (.inl (e : Int))] [] N := by
        intro c
        induction c with
        | zero =>
          intro e q hec hz
          have hz : mf_c P (n - (t + 1)) s = q := hz
          have tt := tell q hz.symm
          exact sX12_tellRow_65 ⟨fun _ => tt, fun q' => by rw [hNE.2 6 (by omega), m6] at q'; omega⟩
        | succ c ihe =>
          intro e q hec hz
          have eE' : e < E := by omega
          obtain ⟨f, is⟩ := q
          cases is with
          | true =>
            have hz2 : mf_c P (n - (t + 1)) s = (f, true) := by
              rw [hz]
              exact z_lp_id _ _ _ (fun j _ _ => if_pos rfl)
            have tt := tell (f, true) hz2.symm
            exact sX12_tellRow_65 ⟨fun q' => by rw [hNE.2 6 (by omega), m6] at q'; omega, fun _ => ⟨fun _ => tt, fun q' => absurd q' (by show ¬ (1 : Int) = 0; omega)⟩⟩
          | false =>
            have next : ∀ q' : Int × Bool, (if s.testBit e = true ∨ mf_k P t e = false then (f, false) else ((e : Int), decide (mf_W P (n - (t + 1)) (s ||| 2 ^ e) + mf_w P t (e : Int) = mf_W P (n - t) s))) = q' → zT g d mX12_tellRow K 65 [some (.inr (.inr ((0, 12), 119))), some (.inl wo), some (.inl pl), some (.inl (s : Int)), some (.inl (t : Int)), some (.inl q'.1), some (.inl (zB q'.2)), some (.inl (zw ((e : Int) + 1)))] [] N := by
              intro q' e'
              rw [zw_suc (by omega)]
              refine ihe (e + 1) q' (by omega) ?_
              rw [hz, ← e']
              rfl
            have tst : zand (zshr (s : Int) (e : Int)) 1 = if s.testBit e then 1 else 0 := by
              have := z_tst (m := s) (e := (e : Int)) (by omega) (by omega)
              rw [show ((e : Int)).toNat = e from by omega] at this
              exact this
            have kk : mf_k P t e = (decide (¬ (e : Int) = wo) && f_fit Y X (e : Int) (t : Int)) := by rw [← hP]; rfl
            refine sX12_tellRow_65 ⟨fun q' => by rw [hNE.2 6 (by omega), m6] at q'; omega, fun _ => ⟨fun q' => absurd rfl q', fun _ => ⟨fun q1 => ?_, fun q1 => ⟨fun q2 => ?_, fun q2 => ⟨by omega, ?_⟩⟩⟩⟩⟩
            · have b : s.testBit e = true := by
                rw [tst] at q1
                by_cases hb : s.testBit e = true
                · exact hb
                · rw [if_neg hb] at q1; omega
              exact next (f, false) (if_pos (Or.inl b))
            · refine next (f, false) (if_pos (Or.inr ?_))
              rw [kk, decide_eq_false (fun hh => hh q2), Bool.false_and]
            · have b : s.testBit e = false := by
                rw [tst] at q1
                cases hb : s.testBit e
                · rfl
                · rw [if_pos hb] at q1; exact absurd rfl q1
              have vN : vM N co cn = Y := by
                rw [← hv]
                exact vM_same (fun j _ _ => hNE.1 j (by omega)) (fun i hi' => hNE.2 i (by omega))
              have mNN : mN N X := hN.same (hNE.2 18 (by omega)) (fun j _ _ => hNE.1 j (by omega))
              refine m_isFit (X := X) (Y := Y) (co := co) (cn := cn) (by rw [vN]; exact hW) mNN hi (by omega) (by omega) (fun f1 => zb1 ?_) (fun f1 => zb0 (next (f, false) (if_pos (Or.inr ?_))))
              · rw [vN] at f1
                have or4 : s ||| 2 ^ e < 2 ^ E := Nat.or_lt_two_pow (by omega) (Nat.pow_lt_pow_right (by omega) eE')
                have ee : zor (s : Int) (zshl 1 (e : Int)) = ((s ||| 2 ^ e : Nat) : Int) := by
                  have : 2 ^ e < 2 ^ 12 := Nat.pow_lt_pow_right (by omega) (by omega)
                  rw [zshl_1 (by omega), show ((e : Int)).toNat = e from by omega, zor_nat (by omega) (by omega)]
                rw [ee, show (t : Int) + 1 = ((t + 1 : Nat) : Int) from by omega, zwi (x := ((t + 1 : Nat) : Int)) (by omega) (by omega), ad (t + 1) (s ||| 2 ^ e) (by omega) (by omega), ad t s (by omega) s4, n156, h156 (t + 1) (s ||| 2 ^ e) (by omega) or4]
                refine ⟨by omega, m_worthOf (Y := Y) (X := X) (wo := wo) (n := n) (E := E) (by omega) (by rw [hNE.1 135 (by omega)]; exact h135 t tn) (zi ⟨by omega, ?_⟩)⟩
                rw [hP, n156, wt]
                have bW2 := mf_W_b P (n - (t + 1)) (s ||| 2 ^ e)
                have bw2 := mf_w_b P t (e : Int)
                rw [zwi (x := mf_W P (n - (t + 1)) (s ||| 2 ^ e) + mf_w P t (e : Int)) (by omega) (by omega)]
                have nb : ¬ (s.testBit e = true ∨ mf_k P t e = false) := by
                  rw [b, kk, f1, decide_eq_true q2]
                  simp
                refine ⟨fun q3 => next ((e : Int), false) ?_, fun q3 => next ((e : Int), true) ?_⟩
                · rw [if_neg nb, decide_eq_false q3]
                · rw [if_neg nb, decide_eq_true q3]
              · rw [vN] at f1
                rw [kk, f1, Bool.and_false]
      refine sX12_tellRow_5 ⟨fun q => by rw [hNE.2 18 (by omega), m18] at q; omega, fun _ => ?_⟩
      rw [show (t : Int) + 1 = ((t + 1 : Nat) : Int) from by omega, zwi (x := ((t + 1 : Nat) : Int)) (by omega) (by omega), ad (t + 1) s (by omega) s4, ad t s (by omega) s4]
      refine ⟨by omega, by omega, m_worthOf (Y := Y) (X := X) (wo := wo) (n := n) (E := E) (by omega) (by rw [hNE.1 135 (by omega)]; exact h135 t tn) (zi ⟨by omega, ?_⟩)⟩
      rw [hP, n156, wt, wt1]
      have bW := mf_W_b P (n - (t + 1)) s
      have bw := mf_w_b P t (-1)
      rw [zwi (x := mf_W P (n - (t + 1)) s + mf_w P t (-1)) (by omega) (by omega)]
      refine ⟨fun q => engs E 0 (-1, false) (by omega) ?_, fun q => engs E 0 (-1, true) (by omega) ?_⟩
      · rw [ec, decide_eq_false q]
      · rw [ec, decide_eq_true q]
  exact outer n 0 0 μ pre (by omega) pp ⟨fun _ _ => rfl, fun _ _ => rfl⟩ hr (by omega) (by rw [Nat.sub_zero])
theorem M_most (hd : 10 ≤ d) (hC : mS μ S) (hI : iS nn S) (h : ∀ μ', zEd μ' μ → mS μ' (o_most S).2 → K (some (.inl (o_most S).1)) μ') : zCall g d 257 [.inr (.inr ((0, 12), 119))] μ K := by
  have iN' : iN S.1 (zX S) := hI.2.2.2.2.2.2.1
  have w := hI.env
  have hC0 : mS (zU μ 119 33 0) S := hC.thr
  have hE0 : zEd (zU μ 119 33 0) μ := (zEd.refl μ).u (by omega)
  unfold o_most at h
  obtain ⟨n, en⟩ : ∃ n : Nat, zX S 8 0 = (n : Int) := ⟨(zX S 8 0).toNat, by have := iN'.1; omega⟩
  obtain ⟨E, eE⟩ : ∃ E : Nat, S.1 13 3 = (E : Int) := ⟨(S.1 13 3).toNat, by omega⟩
  rw [en, eE, show ((n : Int)).toNat = n from by omega, show ((E : Int)).toNat = E from by omega] at h
  refine sX12_most ⟨by omega, ?_⟩
  generalize zU μ 119 33 0 = N0 at *
  have hmN : mN N0 (zX S) := hC0.2.2.2.2.2.1
  refine m_findRows (co := S.1 14) (cn := S.1 15 0) (wo := -1) (pl := 0) (by omega) hC0.1.1 hI.W hmN iN' en eE (fun M hM hW => zi ?_)
  have hCM : mS M S := hC0.scr (fun j hs _ => hM j (by unfold z_scm at hs; omega)) (fun i _ => by rw [hM 119 (by omega)])
  have e0 := zE32_0 (μ := M) (x := 0)
  have mN2 : mN (zU M 119 32 0) (zX S) := (show mN M (zX S) from hCM.2.2.2.2.2.1).same (e0.2 18 (by omega)) (fun j _ _ => e0.1 j (by omega))
  have bW := mf_W_b (S.1, zX S, -1, 0, n, E) n 0
  have n8 : n ≤ 8 := by have := iN'.1; omega
  refine m_tellRow (co := S.1 14) (cn := S.1 15 0) (Y := S.1) (X := zX S) (wo := -1) (pl := 0) (n := n) (E := E) (pre := []) (by omega) (by rw [mUs (by omega)]; exact hCM.1.1) hI.W mN2 iN' en eE (fun t s ht hs => by rw [e0.1 156 (by omega)]; exact hW t s ht hs) mR_0 (by simp) (fun Q hQ hr => zn ?_)
  rw [List.nil_append] at hr
  have e := hQ.trans e0
  have td := td16 (W := mf_W (S.1, zX S, -1, 0, n, E) n 0) (by omega)
  rw [zwi (x := Int.tdiv (mf_W (S.1, zX S, -1, 0, n, E) n 0) 16) (by omega) (by omega)]
  exact h Q (fun j hj => by rw [e.1 j (by omega), hM j (by omega)]; exact hE0 j hj) (hCM.row (fun j _ hj => e.1 j hj) (fun i _ hi => e.2 i hi) hr)
theorem M_fails (hd : 10 ≤ d) (hC : mS μ S) (hI : iS nn S) (h : ∀ μ', zEd μ' μ → mS μ' (o_fails S x).2 → K (some (.inl (o_fails S x).1)) μ') : zCall g d 258 [.inr (.inr ((0, 12), 119)), .inl x] μ K := by
  have iN' : iN S.1 (zX S) := hI.2.2.2.2.2.2.1
  have w := hI.env
  have hC0 : mS (zU μ 119 33 0) S := hC.thr
  have hE0 : zEd (zU μ 119 33 0) μ := (zEd.refl μ).u (by omega)
  unfold o_fails at h
  obtain ⟨n, en⟩ : ∃ n : Nat, zX S 8 0 = (n : Int) := ⟨(zX S 8 0).toNat, by have := iN'.1; omega⟩
  obtain ⟨E, eE⟩ : ∃ E : Nat, S.1 13 3 = (E : Int) := ⟨(S.1 13 3).toNat, by omega⟩
  rw [en, show ((n : Int)).toNat = n from by omega] at h
  refine sX12_fails ⟨by omega, ?_⟩
  generalize zU μ 119 33 0 = N0 at *
  have ev := hC0.env
  refine m_isEngine (by omega) (by omega) (fun q => zb1 ?_) (fun q => zb0 ?_)
  · have q' : 0 ≤ x ∧ x < S.1 13 3 := by omega
    rw [if_pos q', eE, show ((E : Int)).toNat = E from by omega] at h
    have hmN : mN N0 (zX S) := hC0.2.2.2.2.2.1
    refine m_findRows (co := S.1 14) (cn := S.1 15 0) (wo := x) (pl := 1) (by omega) hC0.1.1 hI.W hmN iN' en eE (fun M hM hW => zi ?_)
    have hCM : mS M S := hC0.scr (fun j hs _ => hM j (by unfold z_scm at hs; omega)) (fun i _ => by rw [hM 119 (by omega)])
    have e0 := zE32_0 (μ := M) (x := 0)
    have bW := mf_W_b (S.1, zX S, x, 1, n, E) n 0
    have n8 : n ≤ 8 := by have := iN'.1; omega
    obtain ⟨W, hWW⟩ : ∃ W, mf_W (S.1, zX S, x, 1, n, E) n 0 = W := ⟨_, rfl⟩
    rw [hWW] at bW h ⊢
    have td := td16 (W := W + 15) (by omega)
    rw [zwi (x := W + 15) (by omega) (by omega), zwi (x := Int.tdiv (W + 15) 16) (by omega) (by omega), zwi (x := 16 * Int.tdiv (W + 15) 16) (by omega) (by omega), zwi (x := 16 * Int.tdiv (W + 15) 16 - W) (by omega) (by omega)]
    refine m_tellR mR_0 (by simp) (fun T hT hrT => zn ?_)
    have eT := hT.trans e0
    have mN2 : mN T (zX S) := (show mN M (zX S) from hCM.2.2.2.2.2.1).same (eT.2 18 (by omega)) (fun j _ _ => eT.1 j (by omega))
    have vT : vM T (S.1 14) (S.1 15 0) = S.1 := (vM_same (fun j _ _ => eT.1 j (by omega)) (fun i hi' => eT.2 i (by omega))).trans hCM.1.1
    refine m_tellRow (co := S.1 14) (cn := S.1 15 0) (Y := S.1) (X := zX S) (wo := x) (pl := 1) (n := n) (E := E) (by omega) vT hI.W mN2 iN' en eE (fun t s ht hs => by rw [eT.1 156 (by omega)]; exact hW t s ht hs) hrT (by simp) (fun Q hQ hr => zn ?_)
    have e := hQ.trans eT
    exact h Q (fun j hj => by rw [e.1 j (by omega), hM j (by omega)]; exact hE0 j hj) (hCM.row (fun j _ hj => e.1 j hj) (fun i _ hi => e.2 i hi) hr)
  · rw [if_neg (fun hh => q (by omega))] at h
    exact h N0 hE0 hC0
end
