-- needs 92
/-! burns: the reference's call -/
def bu_f (X : zM) (n D m b : Nat) : Nat := if zand (m : Int) (zxor (D : Int) (-1)) = 0 ∧ fr_c b 12 < fr_c m 12 ∧ ¬ cg X (bl m n 0) (fun _ => 0) [] none = none then m else b
def bu (X : zM) (n D : Nat) : Nat := z_lp (bu_f X n D) D 1 0
def o_burns (S : zS) (x : Int) : Int × zS := if cn_ok (S.1 13 3) x then ((fr_c (bu (zX S) (S.1 13 3).toNat x.toNat) 12 : Int), sR S [(bu (zX S) (S.1 13 3).toNat x.toNat : Int)]) else (-1, S)
section
variable {g : zG} {d : Nat} {K : Option zV → zM → Prop} {μ X : zM} {x nn : Int} {S : zS}
theorem M_burns (hd : 40 ≤ d) (hC : mS μ S) (hI : iS nn S) (h : ∀ μ', zEd μ' μ → mS μ' (o_burns S x).2 → K (some (.inl (o_burns S x).1)) μ') : zCall g d 248 [.inr (.inr ((0, 12), 119)), .inl x] μ K := by
  have w := hI.env
  have hC0 : mS (zU μ 119 33 0) S := hC.thr
  have hE : zEd (zU μ 119 33 0) μ := (zEd.refl μ).u (by omega)
  refine sX12_burns ⟨by omega, ?_⟩
  generalize zU μ 119 33 0 = N0 at *
  have ev := hC0.env
  have hX : iO (zX S) := hI.2.2.2.2.2.1
  obtain ⟨n, hn⟩ : ∃ n : Nat, S.1 13 3 = (n : Int) := ⟨(S.1 13 3).toNat, by omega⟩
  unfold o_burns at h
  refine m_areEngines (n := n) (by omega) (by omega) (by omega) (fun q => zb1 ?_) (fun q => zb0 ?_)
  · have q' : cn_ok (S.1 13 3) x := by rw [hn]; exact q
    rw [if_pos q'] at h
    rw [hn, show ((n : Int)).toNat = n from by omega] at h
    obtain ⟨x0, x1, x2⟩ := q
    have p := p2_12 (n := n) (by omega)
    rw [show ((n : Int)).toNat = n from by omega] at x1
    obtain ⟨D, rfl⟩ : ∃ D : Nat, x = (D : Int) := ⟨x.toNat, by omega⟩
    rw [show ((D : Int)).toNat = D from by omega] at h
    have lp : ∀ (k m b : Nat) (N : zM), m + k = D + 1 → b < 4096 → zEd N μ → mS N S → bu (zX S) n D = z_lp (bu_f (zX S) n D) k m b → zT g d mX12_burns K 19 [some (.inr (.inr ((0, 12), 119))), some (.inl (D : Int)), some (.inl (b : Int)), some (.inl (m : Int))] [] N := by
      intro k
      induction k with
      | zero =>
        intro m b N hm hb hEN hCN hbr
        have hbr : bu (zX S) n D = b := hbr
        rw [hbr] at h
        refine sX12_burns_19 ⟨fun _ => ⟨by omega, m_tellR mR_0 (by simp) (fun Q hQ hr => zn (j_bcn hb (zi ?_)))⟩, fun q => by omega⟩
        have hQ' := hQ.trans zE32_0
        exact h Q (fun j hj => by rw [hQ'.1 j (by omega)]; exact hEN j hj) (hCN.row (fun j _ hj => hQ'.1 j hj) (fun i _ hi => hQ'.2 i hi) hr)
      | succ k ih =>
        intro m b N hm hb hEN hCN hbr
        have hO := hCN.2.2.2.2.1
        have next : ∀ (M : zM) (b' : Nat), zEd M μ → mS M S → b' < 4096 → bu_f (zX S) n D m b = b' → zT g d mX12_burns K 19 [some (.inr (.inr ((0, 12), 119))), some (.inl (D : Int)), some (.inl (b' : Int)), some (.inl (zw ((m : Int) + 1)))] [] M := by
          intro M b' k1 k2 k3 k4
          rw [zw_suc (by omega)]
          refine ih (m + 1) b' M (by omega) k3 k1 k2 ?_
          rw [hbr, ← k4]
          rfl
        refine sX12_burns_19 ⟨fun q => by omega, fun _ => ⟨fun q => next N b hEN hCN hb (if_neg (fun hh => q hh.1)), fun q => ⟨by omega, j_bcn (by omega) (zi (j_bcn hb (zi ⟨fun q2 => next N b hEN hCN hb (if_neg (fun hh => by omega)), fun q2 => m_canCoal (X := zX S) (n := n) (by omega) hX (by omega) (by omega) (by rw [hCN.env.2.2.2.1]; exact hn) ⟨fun i hi => ⟨(hO.1 i hi).1, (hO.1 i hi).2.1⟩, hO.2⟩ (fun y hy => (hO.1 y hy).2.2) (fun M hM hTM hA => ?_)⟩)))⟩⟩⟩
        have hCM : mS M S := by
          obtain ⟨h1, h2, h3, h4, h5, h6, h7⟩ := hCN
          refine ⟨h1.same (fun j _ _ => hM.1 j (by omega)) (fun i hi => hM.2 i (by omega)) (hM.1 138 (by omega)), h2.same (hM.2 30 (by omega)) (hM.1 139 (by omega)), h3.same (hM.2 32 (by omega)) (hM.1 140 (by omega)), h4.same (hM.2 23 (by omega)) (hM.2 25 (by omega)) (hM.1 136 (by omega)) (hM.1 137 (by omega)), ⟨fun i hi => ?_, ?_⟩, h6.same (hM.2 18 (by omega)) (fun j _ _ => hM.1 j (by omega)), h7.same (hM.2 74 (by omega)) (fun j _ _ => hM.1 j (by omega))⟩
          · rw [hM.1 151 (by omega), hM.1 152 (by omega)]
            exact ⟨(h5.1 i hi).1, (h5.1 i hi).2.1, hTM i hi⟩
          · rw [hM.1 153 (by omega), hM.1 154 (by omega)]
            exact h5.2
        have hEM : zEd M μ := fun j hj => by rw [hM.1 j (by omega)]; exact hEN j hj
        by_cases qc : cg (zX S) (bl m n 0) (fun _ => 0) [] none = none
        · rw [if_pos qc]
          exact zb0 (next M b hEM hCM hb (if_neg (fun hh => hh.2.2 qc)))
        · rw [if_neg qc]
          exact zb1 (next M m hEM hCM (by omega) (if_pos ⟨q, by omega, qc⟩))
    exact lp D 1 0 N0 (by omega) (by omega) hE hC0 rfl
  · have q' : ¬ cn_ok (S.1 13 3) x := by rw [hn]; exact q
    rw [if_neg q'] at h
    exact h N0 hE hC0
end
