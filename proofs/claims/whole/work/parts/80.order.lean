-- needs 79
/-! order: as numbers; the reference's search -/
def or_clr (D e : Nat) : Nat := f_bits (fun i => D.testBit i && decide (¬ i = e)) 12
theorem or_clr_t (D e i : Nat) : (or_clr D e).testBit i = (decide (i < 12) && (D.testBit i && decide (¬ i = e))) := f_bits_test _ 12 i
theorem or_clr_lt (D e : Nat) : or_clr D e < 4096 := f_bits_lt _ 12
theorem or_clr_z {D e : Nat} (hD : D < 4096) (he : e < 12) : zand (D : Int) (zxor (zshl 1 (e : Int)) (-1)) = (or_clr D e : Int) := by
  have lt := or_clr_lt D e
  refine zb_ext (zI32_and _ _) (zI32_nat (by omega)) (fun i hi => ?_)
  rw [zbit_and, zbit_not _ _ hi, zbit_nat _ _ hi, zbit_nat _ _ hi, zbit_shl (by omega) i hi, or_clr_t]
  by_cases q : i < 12
  · rw [decide_eq_true q, Bool.true_and]
    by_cases q2 : i = e
    · subst q2; simp
    · have : ¬ e = i := by omega
      simp [q2, this]
  · have : D.testBit i = false := Nat.testBit_lt_two_pow (Nat.lt_of_lt_of_le hD (Nat.pow_le_pow_right (n := 2) (by omega) (show 12 ≤ i by omega)))
    rw [this, decide_eq_false q]
    simp
theorem fr_c_oc (D : Nat) (t : Nat) : ∀ n : Nat, n ≤ 12 → fr_c (or_clr D t) n + (if t < n ∧ D.testBit t = true then 1 else 0) = fr_c D n
  | 0, _ => by simp [fr_c]
  | n + 1, h => by
    have ih := fr_c_oc D t n (by omega)
    simp only [fr_c]
    rw [or_clr_t, decide_eq_true (show n < 12 by omega), Bool.true_and]
    by_cases q : n = t
    · subst q
      rw [if_neg (fun hh : n < n ∧ _ => absurd hh.1 (by omega))] at ih
      by_cases q2 : D.testBit n = true
      · simp [q2]; omega
      · simp [q2]; omega
    · have e1 : (decide (¬ n = t)) = true := by simp; omega
      rw [e1, Bool.and_true]
      by_cases q2 : D.testBit t = true
      · by_cases q3 : t < n
        · rw [if_pos ⟨q3, q2⟩] at ih
          rw [if_pos (show t < n + 1 ∧ D.testBit t = true from ⟨by omega, q2⟩)]
          omega
        · rw [if_neg (fun hh => q3 hh.1)] at ih
          rw [if_neg (show ¬ (t < n + 1 ∧ D.testBit t = true) from fun hh => q3 (by omega))]
          omega
      · rw [if_neg (fun hh => q2 hh.2)] at ih
        rw [if_neg (show ¬ (t < n + 1 ∧ D.testBit t = true) from fun hh => q2 hh.2)]
        omega
def or_b (F : zM → Nat → Int → List Int → zBst → zBst) (Y : zM) (D : Nat) (t : Int) (P : List Int) (e : Nat) (a : zBst) : zBst :=
  if D.testBit e = true then (if Y 2 (e : Int) = -1 then F Y (or_clr D e) t (P ++ [(e : Int)]) a else if f_frees Y (e : Int) = true then F (f_free Y (e : Int)) (or_clr D e) (t + (f_am Y (e : Int) + f_om Y (e : Int))) (P ++ [(e : Int)]) a else a) else a
def or_go : Nat → zM → Nat → Int → List Int → zBst → zBst
  | 0, _, _, _, _, a => a
  | f + 1, Y, D, t, P, a => if D = 0 then b_off a t P else z_lp (or_b (or_go f) Y D t P) 12 0 a
/-- none whose bit stands is out of number -/
def or_in (Y : zM) (D : Nat) : Prop := D < 4096 ∧ ∀ i, D.testBit i = true → (i : Int) < Y 13 3
theorem or_in_clr {Y Z : zM} {D e : Nat} (h : or_in Y D) (hz : Z 13 = Y 13) : or_in Z (or_clr D e) := by
  refine ⟨or_clr_lt D e, fun i hi => ?_⟩
  rw [or_clr_t] at hi
  simp at hi
  rw [hz]
  exact h.2 i hi.2.1
theorem or_12 {D e : Nat} (h : D < 4096) (he : D.testBit e = true) : e < 12 := by
  rcases Nat.lt_or_ge e 12 with q | q
  · exact q
  · rw [Nat.testBit_lt_two_pow (Nat.lt_of_lt_of_le h (Nat.pow_le_pow_right (n := 2) (by omega) (show 12 ≤ e from q)))] at he
    cases he
theorem or_0 {D : Nat} (h : D < 4096) (hc : fr_c D 12 = 0) : D = 0 := by
  refine Nat.eq_of_testBit_eq (fun i => ?_)
  rw [Nat.zero_testBit]
  rcases Nat.lt_or_ge i 12 with q | q
  · exact fr_c_0 D 12 hc i q
  · exact Nat.testBit_lt_two_pow (Nat.lt_of_lt_of_le h (Nat.pow_le_pow_right (n := 2) (by omega) q))
theorem f_free_13 {Y : zM} {e : Int} : f_free Y e 13 = Y 13 := f_free_k (by omega) (by omega)
/-- what costs more is no better -/
theorem or_prune : ∀ (f : Nat) (Y : zM) (D : Nat) (t : Int) (P : List Int) (a : zBst), y_W Y → or_in Y D → Y 5 1 + 500 * (f : Int) ≤ 399000 → b_le a t → or_go f Y D t P a = a := by
  intro f
  induction f with
  | zero => intros; rfl
  | succ f ih =>
    intro Y D t P a hW hD hn hb
    have w := hW.1
    by_cases q : D = 0
    · rw [show or_go (f + 1) Y D t P a = b_off a t P from if_pos q]
      exact b_off_le hb
    · rw [show or_go (f + 1) Y D t P a = z_lp (or_b (or_go f) Y D t P) 12 0 a from if_neg q]
      refine z_lp_id _ _ _ (fun e _ he => ?_)
      unfold or_b
      by_cases q1 : D.testBit e = true
      · have e3 := hD.2 e q1
        rw [if_pos q1]
        by_cases q2 : Y 2 (e : Int) = -1
        · rw [if_pos q2]
          exact ih Y _ t _ a hW (or_in_clr hD rfl) (by omega) hb
        · rw [if_neg q2]
          by_cases q3 : f_frees Y (e : Int) = true
          · rw [if_pos q3]
            have wf := w_free hW (e := (e : Int)) (by omega) q2 q3 (by omega)
            have ba := f_am_b hW (e := (e : Int)) (by omega) q3
            have bo := f_om_b hW (e := (e : Int)) (by omega) q2 q3 (by omega)
            exact ih _ _ _ _ a wf.1 (or_in_clr hD f_free_13) (by rw [wf.2]; omega) (b_le_mono hb (by omega))
          · rw [if_neg q3]
      · rw [if_neg q1]
/-- every row found is as long -/
theorem or_len : ∀ (f : Nat) (Y : zM) (D : Nat) (t : Int) (P : List Int) (a : zBst) (L : Nat), or_in Y D → (∀ q, a = some q → q.2.length = L) → P.length + fr_c D 12 = L → ∀ q, or_go f Y D t P a = some q → q.2.length = L := by
  intro f
  induction f with
  | zero => intro Y D t P a L _ ha _ q hq; exact ha q hq
  | succ f ih =>
    intro Y D t P a L hD ha hl q hq
    by_cases h0 : D = 0
    · rw [show or_go (f + 1) Y D t P a = b_off a t P from if_pos h0] at hq
      have hc : fr_c D 12 = 0 := by rw [h0]; decide
      cases a with
      | none =>
        have hq : some (t, P) = some q := hq
        cases hq
        show P.length = L
        omega
      | some r =>
        by_cases c : t < r.1
        · rw [show b_off (some r) t P = some (t, P) from if_pos c] at hq
          cases hq
          show P.length = L
          omega
        · rw [show b_off (some r) t P = some r from if_neg c] at hq
          exact ha q hq
    · rw [show or_go (f + 1) Y D t P a = z_lp (or_b (or_go f) Y D t P) 12 0 a from if_neg h0] at hq
      have lp : ∀ (k i : Nat) (c : zBst), (∀ q, c = some q → q.2.length = L) → ∀ q, z_lp (or_b (or_go f) Y D t P) k i c = some q → q.2.length = L := by
        intro k
        induction k with
        | zero => intro i c hc q hq; exact hc q hq
        | succ k ih2 =>
          intro i c hc q hq
          refine ih2 (i + 1) _ (fun r hr => ?_) q hq
          unfold or_b at hr
          by_cases q1 : D.testBit i = true
          · rw [if_pos q1] at hr
            have hi := or_12 hD.1 q1
            have fc := fr_c_oc D i 12 (by omega)
            rw [if_pos ⟨hi, q1⟩] at fc
            have hl2 : (P ++ [(i : Int)]).length = P.length + 1 := by simp
            by_cases q2 : Y 2 (i : Int) = -1
            · rw [if_pos q2] at hr
              exact ih _ _ _ _ c L (or_in_clr (Z := Y) hD rfl) hc (by omega) r hr
            · rw [if_neg q2] at hr
              by_cases q3 : f_frees Y (i : Int) = true
              · rw [if_pos q3] at hr
                exact ih _ _ _ _ c L (or_in_clr hD f_free_13) hc (by omega) r hr
              · rw [if_neg q3] at hr
                exact hc r hr
          · rw [if_neg q1] at hr
            exact hc r hr
      exact lp 12 0 a ha q hq
section
variable {g : zG} {co : Int → Int} {cn : Int}
theorem m_orderFrom : ∀ (f d : Nat) (μ Y : zM) (D : Nat) (t : Int) (P : List Int) (a : zBst) (K : Option zV → zM → Prop), 330 + f ≤ d → vM μ co cn = Y → y_W Y → zRu (μ 138) (μ 119 28) co cn → or_in Y D → fr_c D 12 < f → (0 ≤ μ 119 42 ∧ μ 119 42 + 8 * f ≤ 256) → zli (μ 142) P → P.length + f ≤ 12 → mA μ a → (0 ≤ t ∧ t + 500 * f ≤ 10000) → Y 5 1 + 500 * f ≤ 399000 → (∀ μ', zEs μ' μ → vM μ' co cn = Y → μ' 119 42 = μ 119 42 → (∀ i, i < μ 119 42 → μ' 141 i = μ 141 i) → zli (μ' 142) P → mA μ' (or_go f Y D t P a) → K none μ') → zCall g d 220 [.inr (.inr ((0, 12), 119)), .inl (D : Int), .inl (P.length : Int), .inl t] μ K := by
  intro f
  induction f with
  | zero => intro d μ Y D t P a K _ _ _ _ _ hc; omega
  | succ f ih =>
    intro d μ Y D t P a K hd hv hW hR hD hc hh hP hl hA ht hn h
    have w := hW.1
    have wn := hW.2.1
    have D4 := hD.1
    refine sX12_orderFrom ⟨fun q => ?_, fun q => ⟨by omega, m_offer hA hP (by omega) (fun M hM hAM => zn (h M (zEs.b hM) ?_ (hM.2 42 (by omega)) (fun j _ => by rw [hM.1 141 (by omega)]) (by rw [hM.1 142 (by omega)]; exact hP) ?_))⟩⟩
    · have hD0 : ¬ D = 0 := by omega
      have cc : or_go (f + 1) Y D t P a = z_lp (or_b (or_go f) Y D t P) 12 0 a := if_neg hD0
      have lp : ∀ (k i : Nat) (N : zM) (c : zBst), i + k = 12 → zEs N μ → vM N co cn = Y → N 119 42 = μ 119 42 → (∀ i, i < μ 119 42 → N 141 i = μ 141 i) → zli (N 142) P → mA N c → or_go (f + 1) Y D t P a = z_lp (or_b (or_go f) Y D t P) k i c → zT g d mX12_orderFrom K 14 [some (.inr (.inr ((0, 12), 119))), some (.inl (D : Int)), some (.inl (P.length : Int)), some (.inl t), some (.inl (i : Int)), none, none] [] N := by
        intro k
        induction k with
        | zero =>
          intro i N c hi hE hvN h42 h141 hPN hAN hcl
          have n6 : N 119 6 = Y 13 3 := by rw [← hvN]; rfl
          refine sX12_orderFrom_14 ⟨fun _ => h N hE hvN h42 h141 hPN ?_, fun q => by omega⟩
          rw [hcl]
          exact hAN
        | succ k ih2 =>
          intro i N c hi hE hvN h42 h141 hPN hAN hcl
          have n6 : N 119 6 = Y 13 3 := by rw [← hvN]; rfl
          have n15 : N 119 15 = Y 5 1 := by rw [← hvN]; rfl
          have RN := zRu_s hE hR
          have next : ∀ M c', zEs M N → vM M co cn = Y → M 119 42 = μ 119 42 → (∀ i, i < μ 119 42 → M 141 i = μ 141 i) → zli (M 142) P → mA M c' → or_b (or_go f) Y D t P i c = c' → zT g d mX12_orderFrom K 14 [some (.inr (.inr ((0, 12), 119))), some (.inl (D : Int)), some (.inl (P.length : Int)), some (.inl t), some (.inl (zw ((i : Int) + 1))), none, none] [] M := by
            intro M c' hM k1 k2 k3 k4 k5 k6
            rw [zw_suc (by omega)]
            refine ih2 (i + 1) M c' (by omega) (hM.trans hE) k1 k2 k3 k4 k5 ?_
            rw [hcl, ← k6]
            rfl
          refine sX12_orderFrom_14 ⟨fun q2 => h N hE hvN h42 h141 hPN ?_, fun q2 => ⟨fun q3 => ⟨by omega, ?_⟩, fun q3 => next N c (zEs.refl N) hvN h42 h141 hPN hAN ?_⟩⟩
          · rw [hcl, z_lp_id]
            · exact hAN
            · intro j hj _
              refine if_neg (fun hh => ?_)
              have := hD.2 j hh
              omega
          · have n130 : N 130 (i : Int) = Y 2 (i : Int) := by rw [← hvN]; exact (y_in (by omega)).symm
            have tb : D.testBit i = true := by
              rw [z_tst0 (by omega) (by omega)] at q3
              simpa using q3
            have fc := fr_c_oc D i 12 (by omega)
            rw [if_pos ⟨by omega, tb⟩] at fc
            have hl2 : (P ++ [(i : Int)]).length = P.length + 1 := by simp
            -- from the join on
            have join : ∀ (M Z : zM) (u : Int) (l : List (zM × Int × Int × Int)), zEs M N → vM M co cn = Z → y_W Z → Z 13 = Y 13 → Z 5 1 = Y 5 1 + u → (0 ≤ u ∧ u ≤ 500) → M 119 42 = μ 119 42 + 4 * (l.length : Int) → l.length ≤ 2 → (∀ i, i < μ 119 42 → M 141 i = μ 141 i) → h_ok (M 141) (M 119 42) l Z Y → M 142 = N 142 → mA M c → or_b (or_go f) Y D t P i c = or_go f Z (or_clr D i) (t + u) (P ++ [(i : Int)]) c → zT g d mX12_orderFrom K 67 [some (.inr (.inr ((0, 12), 119))), some (.inl (D : Int)), some (.inl (P.length : Int)), some (.inl t), some (.inl (i : Int)), some (.inl (N 119 42)), some (.inl (N 119 15))] [] M := by
              intro M Z u l hM hvM WZ z13 z5 hu m42 hll m141 hk m142 hAM ho
              have m15 : M 119 15 = Z 5 1 := by rw [← hvM]; rfl
              refine sX12_orderFrom_67 ⟨by omega, by omega, ?_⟩
              rw [or_clr_z D4 (by omega), zw_suc (by omega), m15, n15, z5, zwi (x := t + (Y 5 1 + u)) (by omega) (by omega), show t + (Y 5 1 + u) - Y 5 1 = t + u from by omega, zwi (x := t + u) (by omega) (by omega), ← hl2]
              refine ih (d - 1) _ Z (or_clr D i) (t + u) (P ++ [(i : Int)]) c _ (by omega) (by rw [mUo (by omega)]; exact hvM) WZ (zRu_s (hM.p.trans hE) hR) (or_in_clr hD z13) (by omega) (by rw [zU_off 119 (by omega)]; omega) ?_ (by omega) (mA_same hAM (zU_off 143 (by omega)) (by rw [zU_off 119 (by omega)]) (by rw [zU_off 119 (by omega)])) (by omega) (by rw [z5]; omega) (fun Q hQ hvQ q42 q141 hPQ hAQ => zn ?_)
              · rw [zU_row]
                refine zli_snoc ?_
                rw [m142]
                exact hPN
              · rw [zU_off 119 (by omega)] at q42 q141
                rw [zU_off 141 (by omega)] at q141
                refine m_undoC (m_undo (x := N 119 42) (co := co) (cn := cn) (by omega) l Y Q (by rw [hvQ]; exact WZ) ⟨by omega, by rw [q42, m42, h42], by omega⟩ ?_ (fun V hV z42 z141 hvV => zn ?_))
                · rw [hvQ, q42]
                  exact h_ok_mono l (M 119 42) Z Y (fun j hj => q141 j hj) hk
                · refine next V _ ((zEs.v hV).trans (hQ.trans hM.p)) hvV (by rw [z42, h42]) (fun j hj => ?_) ?_ (mA_same hAQ (hV.1 143 (by omega)) (hV.2 48 (by omega)) (hV.2 49 (by omega))) ho
                  · rw [z141, q141 j (by omega), m141 j hj]
                  · rw [hV.1 142 (by omega)]
                    exact zli_pre hPQ
            refine ⟨fun q4 => ?_, fun q4 => ⟨by omega, m_freeNow (co := co) (cn := cn) (by omega) (by rw [hvN]; exact hW) RN (by omega) q4 (by omega) (by omega) (fun hfr M hM hvM h43 h44 h45 m42 hPM hk => zb1 ?_) (fun hfr M hM hvM m42 m141 => zb0 ?_)⟩⟩
            · refine join N Y 0 [] (zEs.refl N) hvN hW rfl (by omega) (by omega) (by rw [h42]; simp) (by simp) h141 rfl rfl hAN ?_
              unfold or_b
              rw [if_pos tb, if_pos (by omega), Int.add_zero]
            · rw [hvN] at hfr hvM m42 hk
              have q5 : ¬ Y 2 (i : Int) = -1 := by omega
              have wf := w_free hW (e := (i : Int)) (by omega) q5 hfr (by omega)
              have ba := f_am_b hW (e := (i : Int)) (by omega) hfr
              have bo := f_om_b hW (e := (i : Int)) (by omega) q5 hfr (by omega)
              have hml : (f_mv Y (i : Int)).length ≤ 2 := by unfold f_mv; split <;> simp
              refine join M (f_free Y (i : Int)) (f_am Y (i : Int) + f_om Y (i : Int)) (f_mv Y (i : Int)) (zEs.w hM) hvM wf.1 f_free_13 wf.2 (by omega) (by rw [m42, h42]) hml (fun j hj => by rw [hPM j (by omega), h141 j hj]) hk (hM.1 142 (by omega)) (mA_same hAN (hM.1 143 (by omega)) (hM.2 48 (by omega)) (hM.2 49 (by omega))) ?_
              unfold or_b
              rw [if_pos tb, if_neg q5, if_pos hfr]
            · rw [hvN] at hfr hvM
              refine m_undoC (m_undo (x := N 119 42) (co := co) (cn := cn) (by omega) [] Y M (by rw [hvM]; exact hW) ⟨by omega, by rw [m42]; simp, by omega⟩ (by rw [hvM]; rfl) (fun V hV z42 z141 hvV => zn ?_))
              refine next V c ((zEs.v hV).trans (zEs.w hM)) hvV (by rw [z42, h42]) (fun j hj => by rw [z141, m141, h141 j hj]) (by rw [hV.1 142 (by omega), hM.1 142 (by omega)]; exact hPN) (mA_same hAN (by rw [hV.1 143 (by omega), hM.1 143 (by omega)]) (by rw [hV.2 48 (by omega), hM.2 48 (by omega)]) (by rw [hV.2 49 (by omega), hM.2 49 (by omega)])) ?_
              unfold or_b
              rw [if_pos tb, if_neg (by omega), if_neg (by rw [hfr]; simp)]
          · rw [z_tst0 (by omega) (by omega)] at q3
            exact if_neg (fun hh => by rw [show ((i : Int)).toNat = i from by omega] at q3; rw [q3] at hh; cases hh)
      exact lp 12 0 μ a (by omega) (zEs.refl μ) hv rfl (fun _ _ => rfl) hP hA cc
    · rw [vM_same (fun j _ _ => hM.1 j (by omega)) (fun i hi => hM.2 i (by omega)), hv]
    · rw [show or_go (f + 1) Y D t P a = b_off a t P from if_pos (by omega)]
      exact hAM
end
