-- needs 97
/-! burns: the class's call -/
section
variable {g : zG} {d : Nat} {K : Option zV → zM → Prop} {μ : zM} {x nn : Int} {S : zS}
theorem C_burns (hd : 40 ≤ d) (hx : zI32 x) (hC : cS μ S) (hI : iS nn S) (h : ∀ μ', zEc μ' μ → cS μ' (o_burns S x).2 → K (some (.inl (o_burns S x).1)) μ') : zCall g d 140 [.inr (.inr ((0, 11), 0)), .inl x] μ K := by
  have w := hI.env
  have ev := hC.env
  obtain ⟨n, hn⟩ : ∃ n : Nat, S.1 13 3 = (n : Int) := ⟨(S.1 13 3).toNat, by omega⟩
  unfold o_burns at h
  refine sX11_burns ⟨by omega, c_canCount (n := n) (by omega) hx (by omega) (by omega) (fun q => zb1 ?_) (fun q => zb0 ?_)⟩
  · have q' : cn_ok (S.1 13 3) x := by rw [hn]; exact q
    rw [if_pos q', hn, show ((n : Int)).toNat = n from by omega] at h
    obtain ⟨x0, x1, x2⟩ := q
    rw [show ((n : Int)).toNat = n from by omega] at x1
    have p := p2_12 (n := n) (by omega)
    obtain ⟨D, rfl⟩ : ∃ D : Nat, x = (D : Int) := ⟨x.toNat, by omega⟩
    rw [show ((D : Int)).toNat = D from by omega] at h x2
    have D4 : D < 4096 := by omega
    have hO := hC.2.2.2.2.1
    have hX : iO (zX S) := hI.2.2.2.2.2.1
    have hlb := bl_len D n 0
    have h12 : fr_c D n ≤ fr_c D 12 := by
      have := bl_len D (12 - n) n
      rw [show n + (12 - n) = 12 from by omega] at this
      omega
    have hl7 : (bl D n 0).length ≤ 7 := by
      rw [Nat.zero_add] at hlb
      omega
    have he12 : ∀ e ∈ bl D n 0, e < 12 := fun e he => by have := bl_lt D n 0 e he; omega
    obtain ⟨b1, b2⟩ := bu_bq (X := zX S) (n := n) (D := D) (by omega) (by omega)
    have pqe := pq_pd D (bq (zX S) (bl D n 0)) n 0 0 0 (bq (zX S) (bl D n 0)) (by omega) (fun j => by rw [Nat.zero_add])
    rw [Nat.zero_add, Nat.pow_zero, Nat.one_mul, ← b1] at pqe
    rw [b2] at h
    have blt := bq_lt (zX S) (bl D n 0)
    have bu4 : bu (zX S) n D < 4096 := by have := pd_lt D n 0 (bq (zX S) (bl D n 0)); omega
    obtain ⟨es, hes⟩ : ∃ es, bl D n 0 = es := ⟨_, rfl⟩
    have hup := c_callUp (g := g) (d := d - 1 - 1) (μ := μ) (K := (zNn fun μ1 => zT g (d - 1) mX1_mostTogether (zIi fun r3 μ2 => K (some (.inl r3)) μ2) 19 [some (.inr (.inr ((0, 1), 70))), none, some (.inl (zw ((zshl 1 (μ1 70 7)) - 1))), some (.inl 0), some (.inl 1), none] [] μ1)) (n := n) (D := D) (by omega) (by omega) (by omega) D4 hl7
    rw [hes] at hl7 he12 pqe h blt hup
    have L128 : 2 ^ es.length ≤ 2 ^ 7 := Nat.pow_le_pow_right (n := 2) (by omega) hl7
    have L1 := Nat.two_pow_pos es.length
    refine sX1_mostTogether ⟨by omega, hup (fun M hM m7 m75 m73 m10 => zn ?_)⟩
    have qM : cQ M (zX S) es := ⟨fun y hy => by rw [hM 71 (by omega), hM 72 (by omega)]; exact hO.1 y hy, fun e he => by rw [hM 10 (by omega), hM 11 (by omega)]; exact hO.2 e he, m75, m7⟩
    rw [m7, zshl_1 (by omega), show ((es.length : Int)).toNat = es.length from by omega]
    rw [zwi (x := ((2 ^ es.length : Nat) : Int) - 1) (by omega) (by omega), show ((2 ^ es.length : Nat) : Int) - 1 = ((2 ^ es.length - 1 : Nat) : Int) from by omega]
    have turn : ∀ (r pre : List Nat) (a : Nat) (N : zM), pre ++ r = es → zE73 N M (fun _ => 0) → a < 4096 → pq (bq (zX S) es) r pre.length a = bu (zX S) n D → zT g (d - 1) mX1_mostTogether (zIi fun r3 μ2 => K (some (.inl r3)) μ2) 62 [some (.inr (.inr ((0, 1), 70))), none, none, some (.inl (bq (zX S) es : Int)), some (.inl (a : Int)), some (.inl (pre.length : Int))] [] N := by
      intro r
      induction r with
      | nil =>
        intro pre a N hp hN ha hq
        rw [List.append_nil] at hp
        have hq : a = bu (zX S) n D := hq
        refine sX1_mostTogether_62 ⟨fun _ => ⟨by omega, c_tellOneR (by omega) (fun Q hQ hr => zn (j_bcn (by omega) (zi (zi ?_))))⟩, fun q => ?_⟩
        · rw [hq] at hr
          have eN : ∀ j, ¬ (j = 18 ∨ j = 19 ∨ j = 70 ∨ (73 ≤ j ∧ j ≤ 77)) → Q j = μ j := fun j hj => by rw [hQ j (by omega), hN.1 j (by omega), hM j (by omega)]
          exact h Q (fun j hj => eN j (by omega)) (hC.row (fun j hj hj2 => eN j (by unfold z_scr at hj; omega)) hr)
        · rw [hN.1 70 (by omega), m7, ← hp] at q
          omega
      | cons e r ih =>
        intro pre a N hp hN ha hq
        have lp1 : (pre ++ [e]).length = pre.length + 1 := by simp
        have ll : pre.length + (r.length + 1) = es.length := by rw [← hp]; simp
        have e12 : e < 12 := he12 e (by rw [← hp]; simp)
        have v75 : N 75 (pre.length : Int) = (e : Int) := by rw [hN.1 75 (by omega)]; exact m75 pre.length (e : Int) (by rw [← hp]; simp)
        refine sX1_mostTogether_62 ⟨fun q => ?_, fun _ => ⟨fun q => ?_, fun q => ⟨by omega, ?_⟩⟩⟩
        · rw [hN.1 70 (by omega), m7] at q
          omega
        · have tb : (bq (zX S) es).testBit pre.length = false := by
            rw [z_tst0 (by omega) (by omega)] at q
            simpa using q
          rw [zw_suc (by omega), ← lp1]
          refine ih (pre ++ [e]) a N (by rw [← hp]; simp) hN ha ?_
          rw [lp1, ← hq]
          exact (if_neg (by rw [tb]; simp)).symm
        · have tb : (bq (zX S) es).testBit pre.length = true := by
            rw [z_tst0 (by omega) (by omega)] at q
            simpa using q
          rw [v75, zshl_1 (by omega), show ((e : Int)).toNat = e from by omega, zor_nat (by omega) (by have := Nat.pow_lt_pow_right (a := 2) (by omega) (show e < 31 by omega); omega), zw_suc (by omega), ← lp1]
          refine ih (pre ++ [e]) _ N (by rw [← hp]; simp) hN ?_ ?_
          · have : 2 ^ e < 2 ^ 12 := Nat.pow_lt_pow_right (by omega) e12
            exact Nat.or_lt_two_pow (n := 12) (by omega) this
          · rw [lp1, ← hq]
            exact (if_pos tb).symm
    have lp : ∀ (k s b : Nat) (N : zM), s + k = 2 ^ es.length → b < 2 ^ es.length → zE73 N M (fun _ => 0) → bq (zX S) es = z_lp (bq_f (zX S) es) k s b → zT g (d - 1) mX1_mostTogether (zIi fun r3 μ2 => K (some (.inl r3)) μ2) 19 [some (.inr (.inr ((0, 1), 70))), none, some (.inl ((2 ^ es.length - 1 : Nat) : Int)), some (.inl (b : Int)), some (.inl (s : Int)), none] [] N := by
      intro k
      induction k with
      | zero =>
        intro s b N hs hb hN hq
        have hq : bq (zX S) es = b := hq
        refine sX1_mostTogether_19 ⟨fun _ => ?_, fun q => by omega⟩
        have := turn es [] 0 N rfl hN (by omega) pqe
        rw [hq] at this
        exact this
      | succ k ih =>
        intro s b N hs hb hN hq
        have next : ∀ (N' : zM) (b' : Nat), zE73 N' M (fun _ => 0) → b' < 2 ^ es.length → bq_f (zX S) es s b = b' → zT g (d - 1) mX1_mostTogether (zIi fun r3 μ2 => K (some (.inl r3)) μ2) 19 [some (.inr (.inr ((0, 1), 70))), none, some (.inl ((2 ^ es.length - 1 : Nat) : Int)), some (.inl (b' : Int)), some (.inl (zw ((s : Int) + 1))), none] [] N' := by
          intro N' b' k1 k2 k3
          rw [zw_suc (by omega)]
          refine ih (s + 1) b' N' (by omega) k2 k1 ?_
          rw [hq, ← k3]
          rfl
        have tr : ∀ N', zE73 N' N (fun _ => 0) → zE73 N' M (fun _ => 0) := fun N' h' => ⟨fun j hj => by rw [h'.1 j hj, hN.1 j hj], h'.2⟩
        refine sX1_mostTogether_19 ⟨fun q => by omega, fun _ => ⟨by omega, j_bcn (by omega) (zi (j_bcn (by omega) (zi ⟨fun q2 => next N b hN hb (if_neg (fun hh => by omega)), fun q2 => ?_⟩)))⟩⟩
        have qN : cQ N (zX S) es := qM.same ⟨fun j hj => hN.1 j (by omega), fun i _ => by rw [hN.1 70 (by omega)]⟩
        exact c_canCoal (m := s) hX hl7 he12 (by omega) es [] (d - 1 - 1) N (fun _ => 0) _ rfl (by omega) qN hN.2 (fun y => by simp) (by simp [cg_ok, ok1]) (fun hf N' hN' => zb1 (next N' s (tr N' hN') (by omega) (if_pos ⟨by omega, hf⟩))) (fun hf N' hN' => zb0 (next N' b (tr N' hN') hb (if_neg (fun hh => by have e := hh.2.symm.trans hf; cases e))))
    exact lp (2 ^ es.length - 1) 1 0 M (by omega) (by omega) ⟨fun _ _ => rfl, m73⟩ rfl
  · have q' : ¬ cn_ok (S.1 13 3) x := by rw [hn]; exact q
    rw [if_neg q'] at h
    exact h μ (zEc.refl μ) hC
end
