-- needs 82
/-! under: as numbers; the reference's search -/
def un_p (F : zM → Int → List Int → zBst → zBst) (Y : zM) (t : Int) (P : List Int) (e p : Nat) (a : zBst) : zBst := if f_may Y (e : Int) (Y 5 1) = true ∧ f_can Y (e : Int) (p : Int) = true then F (f_bring Y (e : Int) (p : Int) (f_min Y (f_point Y (e : Int)) (p : Int))) (t + f_min Y (f_point Y (e : Int)) (p : Int)) (P ++ [(e : Int)] ++ [(p : Int)]) a else a
def un_e (F : zM → Int → List Int → zBst → zBst) (Y : zM) (t : Int) (P : List Int) (e : Nat) (a : zBst) : zBst := z_lp (un_p F Y t P e) (Y 13 0).toNat 0 a
def un : Nat → zM → Int → List Int → zBst → zBst
  | 0, Y, t, P, a => if f_smoke Y = 0 then b_off a t P else a
  | k + 1, Y, t, P, a => z_lp (un_e (un k) Y t P) (Y 13 3).toNat 0 a
section
variable {g : zG} {co : Int → Int} {cn : Int}
theorem m_underFrom : ∀ (f d : Nat) (μ Y : zM) (t : Int) (P : List Int) (a : zBst) (K : Option zV → zM → Prop), 320 + f ≤ d → vM μ co cn = Y → y_W Y → zRu (μ 138) (μ 119 28) co cn → (0 ≤ μ 119 42 ∧ μ 119 42 + 4 * f ≤ 256) → zli (μ 142) P → P.length + 2 * f ≤ 12 → mA μ a → (0 ≤ t ∧ t + 300 * f ≤ 1000) → Y 5 1 + 300 * f ≤ 399000 → (∀ μ', zEs μ' μ → vM μ' co cn = Y → μ' 119 42 = μ 119 42 → (∀ i, i < μ 119 42 → μ' 141 i = μ 141 i) → zli (μ' 142) P → mA μ' (un f Y t P a) → K none μ') → zCall g d 225 [.inr (.inr ((0, 12), 119)), .inl (f : Int), .inl (P.length : Int), .inl t] μ K := by
  intro f
  induction f with
  | zero =>
    intro d μ Y t P a K hd hv hW hR hh hP hl hA ht hn h
    refine sX12_underFrom ⟨fun q => absurd rfl q, fun _ => ⟨by omega, m_smoking (co := co) (cn := cn) (by omega) (by rw [hv]; exact hW) (zi ?_)⟩⟩
    rw [hv]
    refine ⟨fun q => h μ (zEs.refl μ) hv rfl (fun _ _ => rfl) hP ?_, fun q => m_offer hA hP (by omega) (fun M hM hAM => zn (h M (zEs.b hM) ?_ (hM.2 42 (by omega)) (fun j _ => by rw [hM.1 141 (by omega)]) (by rw [hM.1 142 (by omega)]; exact hP) ?_))⟩
    · rw [show un 0 Y t P a = a from if_neg q]
      exact hA
    · rw [vM_same (fun j _ _ => hM.1 j (by omega)) (fun i hi => hM.2 i (by omega)), hv]
    · rw [show un 0 Y t P a = b_off a t P from if_pos q]
      exact hAM
  | succ f ih =>
    intro d μ Y t P a K hd hv hW hR hh hP hl hA ht hn h
    have w := hW.1
    refine sX12_underFrom ⟨fun _ => ?_, fun q => by omega⟩
    have lp : ∀ (k i : Nat) (N : zM) (c : zBst), i + k = (Y 13 3).toNat → zEs N μ → vM N co cn = Y → N 119 42 = μ 119 42 → (∀ i, i < μ 119 42 → N 141 i = μ 141 i) → zli (N 142) P → mA N c → un (f + 1) Y t P a = z_lp (un_e (un f) Y t P) k i c → zT g d mX12_underFrom K 21 [some (.inr (.inr ((0, 12), 119))), some (.inl ((f + 1 : Nat) : Int)), some (.inl (P.length : Int)), some (.inl t), some (.inl (i : Int)), none, none, none] [] N := by
      intro k
      induction k with
      | zero =>
        intro i N c hi hE hvN h42 h141 hPN hAN hcl
        have n6 : N 119 6 = Y 13 3 := by rw [← hvN]; rfl
        refine sX12_underFrom_21 ⟨fun _ => h N hE hvN h42 h141 hPN ?_, fun q => by omega⟩
        rw [hcl]
        exact hAN
      | succ k ih2 =>
        intro e N0 c0 hi hE0 hvN0 h420 h1410 hPN0 hAN0 hcl0
        have n60 : N0 119 6 = Y 13 3 := by rw [← hvN0]; rfl
        refine sX12_underFrom_21 ⟨fun q => by omega, fun _ => ?_⟩
        have lp2 : ∀ (k2 i : Nat) (N : zM) (c : zBst), i + k2 = (Y 13 0).toNat → zEs N μ → vM N co cn = Y → N 119 42 = μ 119 42 → (∀ i, i < μ 119 42 → N 141 i = μ 141 i) → zli (N 142) P → mA N c → un_e (un f) Y t P e c0 = z_lp (un_p (un f) Y t P e) k2 i c → zT g d mX12_underFrom K 33 [some (.inr (.inr ((0, 12), 119))), some (.inl ((f + 1 : Nat) : Int)), some (.inl (P.length : Int)), some (.inl t), some (.inl (e : Int)), some (.inl (i : Int)), none, none] [] N := by
          intro k2
          induction k2 with
          | zero =>
            intro i N c hi2 hE hvN h42 h141 hPN hAN hcl
            have n0 : N 119 0 = Y 13 0 := by rw [← hvN]; rfl
            refine sX12_underFrom_33 ⟨fun _ => ?_, fun q => by omega⟩
            rw [zw_suc (by omega)]
            refine ih2 (e + 1) N c (by omega) hE hvN h42 h141 hPN hAN ?_
            rw [hcl0]
            show z_lp (un_e (un f) Y t P) k (e + 1) (un_e (un f) Y t P e c0) = _
            rw [hcl]
            rfl
          | succ k2 ih3 =>
            intro i N c hi2 hE hvN h42 h141 hPN hAN hcl
            have n0 : N 119 0 = Y 13 0 := by rw [← hvN]; rfl
            have n15 : N 119 15 = Y 5 1 := by rw [← hvN]; rfl
            have n6 : N 119 6 = Y 13 3 := by rw [← hvN]; rfl
            have RN := zRu_s hE hR
            have next : ∀ M c', zEs M N → vM M co cn = Y → M 119 42 = μ 119 42 → (∀ i, i < μ 119 42 → M 141 i = μ 141 i) → zli (M 142) P → mA M c' → un_p (un f) Y t P e i c = c' → zT g d mX12_underFrom K 33 [some (.inr (.inr ((0, 12), 119))), some (.inl ((f + 1 : Nat) : Int)), some (.inl (P.length : Int)), some (.inl t), some (.inl (e : Int)), some (.inl (zw ((i : Int) + 1))), none, none] [] M := by
              intro M c' hM k1 k2 k3 k4 k5 k6
              rw [zw_suc (by omega)]
              refine ih3 (i + 1) M c' (by omega) (hM.trans hE) k1 k2 k3 k4 k5 ?_
              rw [hcl, ← k6]
              rfl
            refine sX12_underFrom_33 ⟨fun q => by omega, fun _ => ⟨by omega, m_mayGo (co := co) (cn := cn) (by omega) (by rw [hvN]; exact hW) (by omega) (fun q1 => zb1 (m_canBe (co := co) (cn := cn) (by omega) (by rw [hvN]; exact hW) RN (by omega) (by omega) (fun M hM q2 => zb1 ?_) (fun M hM q2 => zb0 ?_))) (fun q1 => zb0 ?_)⟩⟩
            · rw [hvN, n15] at q1
              rw [hvN] at q2
              have vM' : vM M co cn = Y := by rw [vM_same (fun j _ _ => hM.1 j (by omega)) (fun i hi => hM.2 i (by omega)), hvN]
              have m42 : M 119 42 = μ 119 42 := by rw [hM.2 42 (by omega), h42]
              refine m_go (co := co) (cn := cn) (by omega) vM' hW (by omega) q2 (by omega) (by omega) (by omega) (fun N2 hN2 h42' h141' hv2 W2 hk => ?_)
              have bm := f_min_b hW (a := f_point Y (e : Int)) (b := (i : Int)) (f_point_b hW (by omega)) (by omega)
              have hl2 : (P ++ [(e : Int)] ++ [(i : Int)]).length = P.length + 2 := by simp
              rw [zwi (x := (P.length : Int) + 2) (by omega) (by omega), zwi (x := t + f_min Y (f_point Y (e : Int)) (i : Int)) (by omega) (by omega), zwi (x := ((f + 1 : Nat) : Int) - 1) (by omega) (by omega), show ((f + 1 : Nat) : Int) - 1 = (f : Int) from by omega, zw_suc (by omega), show (P.length : Int) + 2 = ((P ++ [(e : Int)] ++ [(i : Int)]).length : Int) from by rw [hl2]; rfl]
              have e2 : zEs (zU (zU N2 142 (P.length : Int) (e : Int)) 142 ((P.length + 1 : Nat) : Int) (i : Int)) N := ((zEs.v hN2).trans (zEs.m hM)).p.p
              refine ⟨by omega, by omega, ih (d - 1) _ (f_bring Y (e : Int) (i : Int) (f_min Y (f_point Y (e : Int)) (i : Int))) _ (P ++ [(e : Int)] ++ [(i : Int)]) c _ (by omega) (by rw [mUo (by omega), mUo (by omega)]; exact hv2) W2 (zRu_s (e2.trans hE) hR) (by rw [zU_off 119 (by omega), zU_off 119 (by omega)]; omega) ?_ (by omega) ?_ (by omega) (by rw [f_bring_51]; omega) (fun Q hQ hvQ q42 q141 hPQ hAQ => zn ?_)⟩
              · have z1 : zli (zU N2 142 (P.length : Int) (e : Int) 142) (P ++ [(e : Int)]) := by
                  rw [zU_row]
                  refine zli_snoc ?_
                  rw [hN2.1 142 (by omega), hM.1 142 (by omega)]
                  exact hPN
                rw [zU_row, show (P.length + 1) = (P ++ [(e : Int)]).length from by simp]
                exact zli_snoc z1
              · exact mA_same hAN (by rw [zU_off 143 (by omega), zU_off 143 (by omega), hN2.1 143 (by omega), hM.1 143 (by omega)]) (by rw [zU_off 119 (by omega), zU_off 119 (by omega), hN2.2 48 (by omega), hM.2 48 (by omega)]) (by rw [zU_off 119 (by omega), zU_off 119 (by omega), hN2.2 49 (by omega), hM.2 49 (by omega)])
              · rw [zU_off 119 (by omega), zU_off 119 (by omega)] at q42 q141
                rw [zU_off 141 (by omega), zU_off 141 (by omega)] at q141
                refine m_undoC (m_undo (x := M 119 42) (co := co) (cn := cn) (by omega) [(Y, (e : Int), (i : Int), f_min Y (f_point Y (e : Int)) (i : Int))] Y Q (by rw [hvQ]; exact W2) ⟨by omega, by rw [q42, h42']; simp, by omega⟩ ?_ (fun Z hZ z42 z141 hvZ => zn ?_))
                · rw [hvQ, q42, h42']
                  exact hk (Q 141) (fun j hj => q141 j (by omega))
                · refine next Z _ ((zEs.v hZ).trans (hQ.trans e2)) hvZ (by rw [z42, m42]) (fun j hj => ?_) ?_ (mA_same hAQ (hZ.1 143 (by omega)) (hZ.2 48 (by omega)) (hZ.2 49 (by omega))) (if_pos ⟨q1, q2⟩)
                  · rw [z141, q141 j (by omega), h141' j (by omega), hM.1 141 (by omega), h141 j hj]
                  · rw [hZ.1 142 (by omega)]
                    exact zli_pre (zli_pre hPQ)
            · rw [hvN] at q2
              have vM' : vM M co cn = Y := by rw [vM_same (fun j _ _ => hM.1 j (by omega)) (fun i hi => hM.2 i (by omega)), hvN]
              exact next M c (zEs.m hM) vM' (by rw [hM.2 42 (by omega), h42]) (fun j hj => by rw [hM.1 141 (by omega), h141 j hj]) (by rw [hM.1 142 (by omega)]; exact hPN) (mA_same hAN (hM.1 143 (by omega)) (hM.2 48 (by omega)) (hM.2 49 (by omega))) (if_neg (fun hh => by rw [q2] at hh; cases hh.2))
            · rw [hvN, n15] at q1
              exact next N c (zEs.refl N) hvN h42 h141 hPN hAN (if_neg (fun hh => by rw [q1] at hh; cases hh.1))
        exact lp2 (Y 13 0).toNat 0 N0 c0 (by omega) hE0 hvN0 h420 h1410 hPN0 hAN0 rfl
    exact lp (Y 13 3).toNat 0 μ a (by omega) (zEs.refl μ) hv rfl (fun _ _ => rfl) hP hA rfl
end
