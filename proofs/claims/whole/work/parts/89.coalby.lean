-- needs 88
/-! coaled, fill: the reference's calls, whole -/
def co_row (X : zM) (T : Int → Int) (r : List Int) : List Int := r ++ [X 0 0 - T 0] ++ [X 0 1 - T 1] ++ [X 0 2 - T 2]
def co_X (X : zM) (T : Int → Int) (f : Int) : zM := fun k i => if ¬ f = 0 ∧ k = 0 ∧ 0 ≤ i ∧ i < 3 then X 0 i - T i else X k i
def co_st (S : zS) (es : List Nat) (r : List Int) (f : Int) : zS := sX (sR S (co_row (zX S) (ct (zX S) es r (fun _ => 0)) r)) (co_X (zX S) (ct (zX S) es r (fun _ => 0)) f)
def o_share (S : zS) (x f : Int) : Int × zS := if cn_ok (S.1 13 3) x then (match cg (zX S) (bl x.toNat (S.1 13 3).toNat 0) (fun _ => 0) [] none with
  | none => (-2, S)
  | some q => (ts (zX S) (bl x.toNat (S.1 13 3).toNat 0), co_st S (bl x.toNat (S.1 13 3).toNat 0) q.2 f)) else (-1, S)
def zEf (μ' μ : zM) : Prop := (∀ j, ¬ (j = 119 ∨ j = 140 ∨ j = 142 ∨ j = 143 ∨ j = 151 ∨ j = 155) → μ' j = μ j) ∧ ∀ i, ¬ (i = 32 ∨ i = 48 ∨ i = 49) → μ' 119 i = μ 119 i
theorem zEf.trans {a b c : zM} (h : zEf a b) (h' : zEf b c) : zEf a c := ⟨fun j hj => (h.1 j hj).trans (h'.1 j hj), fun i hi => (h.2 i hi).trans (h'.2 i hi)⟩
theorem zEf.k {a b : zM} (h : zEk a b) : zEf a b := ⟨fun j hj => h.1 j (by omega), fun i hi => h.2 i (by omega)⟩
theorem zEf.r {a b : zM} (h : zE32 a b) : zEf a b := ⟨fun j hj => h.1 j (by omega), fun i hi => h.2 i (by omega)⟩
theorem zEf.u {a b : zM} {j : Nat} {i v : Int} (h : zEf a b) (hj : j = 151 ∨ j = 155) : zEf (zU a j i v) b := ⟨fun k hk => by rw [zU_off k (by omega)]; exact h.1 k hk, fun k hk => by rw [zU_off 119 (by omega)]; exact h.2 k hk⟩
section
variable {g : zG} {d : Nat} {K : Option zV → zM → Prop} {μ X : zM} {n : Nat} {D : Nat} {x f s nn : Int} {S : zS}
/-- one grade told, taken, forgotten -/
theorem m_tell1 {x : Nat} {r : List Int} {v w : Int} (hd : 1 ≤ d) (hx : x < 3) (hr : mR μ r) (hl : r.length < 16) (h1 : μ 151 (x : Int) = v) (h5 : μ 155 (x : Int) = w) (hv : 0 ≤ v ∧ v ≤ 999) (hw : 0 ≤ w ∧ w ≤ 999)
    (h : ∀ N, zEf N μ → mR N (r ++ [v - w]) → (∀ y, N 151 y = if ¬ f = 0 ∧ y = (x : Int) then v - w else μ 151 y) → (∀ y, N 155 y = if y = (x : Int) then 0 else μ 155 y) → zT g d mX12_coalBy K 111 [some (.inr (.inr ((0, 12), 119))), none, some (.inl f), some (.inl s), none, some (.inl ((x + 1 : Nat) : Int))] [] N) : zT g d mX12_coalBy K 111 [some (.inr (.inr ((0, 12), 119))), none, some (.inl f), some (.inl s), none, some (.inl (x : Int))] [] μ := by
  refine sX12_coalBy_111 ⟨fun q => by omega, fun _ => ⟨by omega, hd, ?_⟩⟩
  rw [h1, h5, zwi (x := v - w) (by omega) (by omega)]
  refine m_tellR hr hl (fun M hM hr2 => zn ⟨fun q => ?_, fun q => ?_⟩)
  · rw [zw_suc (by omega)]
    refine h _ ((zEf.r hM).u (Or.inr rfl)) (hr2.same (by rw [zU_off 119 (by omega)]) (zU_off 140 (by omega))) (fun y => ?_) (fun y => ?_)
    · rw [if_neg (fun hh => hh.1 q), zU_off 151 (by omega), hM.1 151 (by omega)]
    · by_cases qy : y = (x : Int)
      · subst qy
        rw [zU_eq, if_pos rfl]
      · rw [zU_ne (by omega), if_neg qy, hM.1 155 (by omega)]
  · rw [zw_suc (by omega), hM.1 151 (by omega), hM.1 155 (by omega), h1, h5, zwi (x := v - w) (by omega) (by omega)]
    refine h _ (((zEf.r hM).u (Or.inl rfl)).u (Or.inr rfl)) (hr2.same (by rw [zU_off 119 (by omega), zU_off 119 (by omega)]) (by rw [zU_off 140 (by omega), zU_off 140 (by omega)])) (fun y => ?_) (fun y => ?_)
    · rw [zU_off 151 (by omega)]
      by_cases qy : y = (x : Int)
      · subst qy
        rw [zU_eq, if_pos ⟨q, rfl⟩]
      · rw [zU_ne (by omega), if_neg (fun hh => qy hh.2), hM.1 151 (by omega)]
    · by_cases qy : y = (x : Int)
      · subst qy
        rw [zU_eq, if_pos rfl]
      · rw [zU_ne (by omega), zU_ne (by omega), if_neg qy, hM.1 155 (by omega)]
theorem M_coalBy (hd : 30 ≤ d) (hC : mS μ S) (hI : iS nn S) (hx : cn_ok (S.1 13 3) x) (h : ∀ μ', zEd μ' μ → mS μ' (o_share S x f).2 → K (some (.inl (o_share S x f).1)) μ') : zCall g d 247 [.inr (.inr ((0, 12), 119)), .inl x, .inl f] μ K := by
  have w := hI.env
  have ev := hC.env
  unfold o_share at h
  rw [if_pos hx] at h
  obtain ⟨x0, x1, x2⟩ := hx
  have p := p2_12 (n := (S.1 13 3).toNat) (by omega)
  obtain ⟨D, rfl⟩ : ∃ D : Nat, x = (D : Int) := ⟨x.toNat, by omega⟩
  rw [show ((D : Int)).toNat = D from by omega] at h x2
  have D4 : D < 4096 := by omega
  obtain ⟨n, hn⟩ : ∃ n : Nat, S.1 13 3 = (n : Int) := ⟨(S.1 13 3).toNat, by omega⟩
  rw [hn, show ((n : Int)).toNat = n from by omega] at h
  have hO := hC.2.2.2.2.1
  have hX : iO (zX S) := hI.2.2.2.2.2.1
  have hlb := bl_len D n 0
  have h12 : fr_c D n ≤ fr_c D 12 := by
    have := bl_len D (12 - n) n
    rw [show n + (12 - n) = 12 from by omega] at this
    omega
  have hl7 : (bl D n 0).length ≤ 7 := by
    rw [Nat.zero_add] at hlb
    omega
  have hlt := bl_lt D n 0
  refine sX12_coalBy ⟨by omega, m_canCoal (X := zX S) (n := n) (by omega) hX (by omega) D4 (by omega) ⟨fun i hi => ⟨(hO.1 i hi).1, (hO.1 i hi).2.1⟩, hO.2⟩ (fun y hy => (hO.1 y hy).2.2) (fun M hM hTM hA => ?_)⟩
  have hCM : mS M S := by
    obtain ⟨h1, h2, h3, h4, h5, h6, h7⟩ := hC
    refine ⟨h1.same (fun j _ _ => hM.1 j (by omega)) (fun i hi => hM.2 i (by omega)) (hM.1 138 (by omega)), h2.same (hM.2 30 (by omega)) (hM.1 139 (by omega)), h3.same (hM.2 32 (by omega)) (hM.1 140 (by omega)), h4.same (hM.2 23 (by omega)) (hM.2 25 (by omega)) (hM.1 136 (by omega)) (hM.1 137 (by omega)), ⟨fun i hi => ?_, ?_⟩, h6.same (hM.2 18 (by omega)) (fun j _ _ => hM.1 j (by omega)), h7.same (hM.2 74 (by omega)) (fun j _ _ => hM.1 j (by omega))⟩
    · rw [hM.1 151 (by omega), hM.1 152 (by omega)]
      exact ⟨(h5.1 i hi).1, (h5.1 i hi).2.1, hTM i hi⟩
    · rw [hM.1 153 (by omega), hM.1 154 (by omega)]
      exact h5.2
  cases hcg : cg (zX S) (bl D n 0) (fun _ => 0) [] none with
  | none =>
    rw [hcg] at h
    rw [if_pos rfl]
    exact zb0 (h M (fun j hj => hM.1 j (by omega)) hCM)
  | some q =>
    rw [hcg] at h hA
    rw [if_neg (fun hh => by cases hh)]
    refine zb1 ?_
    rcases cg_is (zX S) (bl D n 0) (fun _ => 0) [] none q hcg with hh | ⟨r, hr1, hr2, hr3, _, _⟩
    · cases hh
    rw [List.nil_append] at hr1
    have CTb := ct_b (zX S) hX (bl D n 0) q.2 (fun _ => 0) 0 (fun e he => by have := hlt e he; omega) (fun x => by simp)
    have TSb := ts_b (zX S) hX (bl D n 0) (fun e he => by have := hlt e he; omega)
    simp only [] at h
    obtain ⟨CT, hCT⟩ : ∃ CT, ct (zX S) (bl D n 0) q.2 (fun _ => 0) = CT := ⟨_, rfl⟩
    rw [hCT] at CTb
    -- the end
    have last : ∀ N : zM, zEk N M → mA N (some q) → (∀ y, 0 ≤ y ∧ y < 3 → N 155 y = CT y) → zCall g (d - 1) 219 [.inr (.inr ((0, 12), 119))] N (zNn fun μ1 => zT g d mX12_coalBy K 111 [some (.inr (.inr ((0, 12), 119))), none, some (.inl f), some (.inl (ts (zX S) (bl D n 0))), none, some (.inl 0)] [] μ1) := by
      intro N hN hAN hTN
      refine m_tellBest (t := q.1) (r := q.2) hAN (by rw [hr1]; omega) (by omega) (fun V hV hrV => zn ?_)
      have eV : zEf V M := (zEf.r hV).trans (zEf.k hN)
      have v151 : ∀ y, 0 ≤ y ∧ y < 3 → V 151 y = zX S 0 y := fun y hy => by rw [hV.1 151 (by omega), hN.1 151 (by omega)]; exact (hCM.2.2.2.2.1.1 y hy).1
      have v155 : ∀ y, 0 ≤ y ∧ y < 3 → V 155 y = CT y := fun y hy => by rw [hV.1 155 (by omega)]; exact hTN y hy
      have b0 := hX.1 0 (by omega)
      have b1 := hX.1 1 (by omega)
      have b2 := hX.1 2 (by omega)
      have c0 := CTb 0
      have c1 := CTb 1
      have c2 := CTb 2
      have lq : q.2.length ≤ 7 := by rw [hr1]; omega
      refine m_tell1 (x := 0) (v := zX S 0 0) (w := CT 0) (by omega) (by omega) hrV (by omega) (v151 0 (by omega)) (v155 0 (by omega)) (by omega) (by omega) (fun A hA hrA a151 a155 => ?_)
      refine m_tell1 (x := 1) (v := zX S 0 1) (w := CT 1) (by omega) (by omega) hrA (by simp; omega) (by rw [a151, if_neg (fun hh => by omega)]; exact v151 1 (by omega)) (by rw [a155, if_neg (by omega)]; exact v155 1 (by omega)) (by omega) (by omega) (fun B hB hrB b151 b155 => ?_)
      refine m_tell1 (x := 2) (v := zX S 0 2) (w := CT 2) (by omega) (by omega) hrB (by simp; omega) (by rw [b151, if_neg (fun hh => by omega), a151, if_neg (fun hh => by omega)]; exact v151 2 (by omega)) (by rw [b155, if_neg (by omega), a155, if_neg (by omega)]; exact v155 2 (by omega)) (by omega) (by omega) (fun C hC' hrC c151 c155 => ?_)
      have eC : zEf C M := hC'.trans (hB.trans (hA.trans eV))
      refine sX12_coalBy_111 ⟨fun _ => ?_, fun q => by omega⟩
      refine h C (fun j hj => by rw [eC.1 j (by omega), hM.1 j (by omega)]) ?_
      unfold co_st
      rw [hCT]
      have ek : ∀ k, ¬ k = 0 → co_X (zX S) CT f k = zX S k := fun k hk => by
        funext i
        unfold co_X
        rw [if_neg (fun hh => hk hh.2.1)]
      obtain ⟨h1, h2, h3, h4, h5, h6, h7⟩ := hCM
      refine ⟨h1.same (fun j _ _ => eC.1 j (by omega)) (fun i hi => eC.2 i (by omega)) (eC.1 138 (by omega)), h2.same (eC.2 30 (by omega)) (eC.1 139 (by omega)), hrC, h4.same (eC.2 23 (by omega)) (eC.2 25 (by omega)) (eC.1 136 (by omega)) (eC.1 137 (by omega)), ⟨fun i hi => ?_, fun e he => ?_⟩, (h6.same (eC.2 18 (by omega)) (fun j _ _ => eC.1 j (by omega))).xx (fun k hk => ?_), (h7.same (eC.2 74 (by omega)) (fun j _ _ => eC.1 j (by omega))).xx (fun k hk => ?_)⟩
      · have i3 : i = 0 ∨ i = 1 ∨ i = 2 := by omega
        have e152 : C 152 i = zX S 1 i := by rw [eC.1 152 (by omega)]; exact (h5.1 i hi).2.1
        show C 151 i = co_X (zX S) CT f 0 i ∧ C 152 i = co_X (zX S) CT f 1 i ∧ C 155 i = 0
        rw [ek 1 (by omega)]
        refine ⟨?_, e152, ?_⟩
        · rw [c151, b151, a151, v151 i hi]
          unfold co_X
          by_cases qf : f = 0
          · rw [if_neg (fun hh => hh.1 qf), if_neg (fun hh => hh.1 qf), if_neg (fun hh => hh.1 qf), if_neg (fun hh => hh.1 qf)]
          · rw [if_pos (show ¬ f = 0 ∧ 0 = 0 ∧ 0 ≤ i ∧ i < 3 from ⟨qf, rfl, hi⟩)]
            rcases i3 with rfl | rfl | rfl
            · rw [if_neg (fun hh => by omega), if_neg (fun hh => by omega), if_pos ⟨qf, rfl⟩]
            · rw [if_neg (fun hh => by omega), if_pos ⟨qf, rfl⟩]
            · rw [if_pos ⟨qf, rfl⟩]
        · rw [c155, b155, a155]
          rcases i3 with rfl | rfl | rfl <;> simp
      · rw [eC.1 153 (by omega), eC.1 154 (by omega)]
        show M 153 e = co_X (zX S) CT f 2 e ∧ M 154 e = co_X (zX S) CT f 3 e
        rw [ek 2 (by omega), ek 3 (by omega)]
        exact h5.2 e he
      · funext i
        show co_X (zX S) CT f k i = zX S k i
        unfold co_X
        rw [if_neg (fun hh => by omega)]
      · funext i
        show co_X (zX S) CT f k i = zX S k i
        unfold co_X
        rw [if_neg (fun hh => by omega)]
    -- the sums
    have sums : ∀ (k i : Nat) (pre r' : List Int) (T : Int → Int) (s : Int) (N : zM), i + k = n → pre ++ r' = q.2 → r'.length = (bl D k i).length → zEk N M → mA N (some q) → (∀ y, 0 ≤ y ∧ y < 3 → N 155 y = T y) → (∀ y, 0 ≤ T y ∧ T y ≤ 40 * (pre.length : Int)) → (0 ≤ s ∧ s ≤ 40 * (pre.length : Int)) → ct (zX S) (bl D k i) r' T = CT → s + ts (zX S) (bl D k i) = ts (zX S) (bl D n 0) → zT g d mX12_coalBy K 42 [some (.inr (.inr ((0, 12), 119))), some (.inl (D : Int)), some (.inl f), some (.inl s), some (.inl (pre.length : Int)), some (.inl (i : Int))] [] N := by
      intro k
      induction k with
      | zero =>
        intro i pre r' T s N hi hpr hrl hN hAN hTN hTb hs hct hts
        have n6 : N 119 6 = (n : Int) := by rw [hN.2 6 (by omega), hM.2 6 (by omega)]; omega
        refine sX12_coalBy_42 ⟨fun _ => ⟨by omega, ?_⟩, fun q => by omega⟩
        have e0 : s = ts (zX S) (bl D n 0) := by
          rw [← hts]
          show s = s + 0
          omega
        rw [e0]
        refine last N hN hAN (fun y hy => ?_)
        rw [hTN y hy, ← hct]
        rfl
      | succ k ih =>
        intro i pre r' T s N hi hpr hrl hN hAN hTN hTb hs hct hts
        have n6 : N 119 6 = (n : Int) := by rw [hN.2 6 (by omega), hM.2 6 (by omega)]; omega
        have lpr : pre.length + r'.length = q.2.length := by rw [← hpr]; simp
        have lq : q.2.length ≤ 7 := by rw [hr1]; omega
        refine sX12_coalBy_42 ⟨fun q => by omega, fun _ => ⟨fun qb => ?_, fun qb => ?_⟩⟩
        · have tb : D.testBit i = true := by
            rw [z_tst0 (by omega) (by omega)] at qb
            simpa using qb
          have ebl : bl D (k + 1) i = i :: bl D k (i + 1) := if_pos tb
          rw [ebl] at hrl hct hts
          cases r' with
          | nil => simp at hrl
          | cons j r' =>
            have hj : 0 ≤ j ∧ j < 3 := hr3 j (by rw [← hr1, ← hpr]; simp)
            have v143 : N 143 (pre.length : Int) = j := hAN.2.2.2 pre.length j (by show q.2[pre.length]? = some j; rw [← hpr]; simp)
            have v153 : N 153 (i : Int) = zX S 2 (i : Int) := by rw [hN.1 153 (by omega)]; exact (hCM.2.2.2.2.1.2 (i : Int) (by omega)).1
            have xe := hX.2 (i : Int) (by omega)
            have tj := hTb j
            simp only [List.length_cons] at lpr hrl
            rw [v143, v153, hTN j hj, zwi (x := s + zX S 2 (i : Int)) (by omega) (by omega), zwi (x := T j + zX S 2 (i : Int)) (by omega) (by omega), zw_suc (by omega), zw_suc (by omega)]
            refine ⟨by omega, by omega, by omega, ?_⟩
            have lp1 : (pre ++ [j]).length = pre.length + 1 := by simp
            rw [← lp1]
            refine ih (i + 1) (pre ++ [j]) r' (fun y => if y = j then T y + zX S 2 (i : Int) else T y) _ _ (by omega) (by rw [← hpr]; simp) (by omega) (hN.u (Or.inr rfl)) (mA_same hAN (zU_off 143 (by omega)) (by rw [zU_off 119 (by omega)]) (by rw [zU_off 119 (by omega)])) (fun y hy => ?_) (fun y => ?_) (by rw [lp1]; omega) hct ?_
            · by_cases qy : y = j
              · subst qy
                rw [zU_eq]
                exact (if_pos rfl).symm
              · rw [zU_ne (by omega), hTN y hy]
                exact (if_neg qy).symm
            · have := hTb y
              rw [lp1]
              show 0 ≤ (if y = j then T y + zX S 2 (i : Int) else T y) ∧ (if y = j then T y + zX S 2 (i : Int) else T y) ≤ _
              split <;> omega
            · rw [← hts]
              show s + zX S 2 (i : Int) + ts (zX S) (bl D k (i + 1)) = s + (zX S 2 (i : Int) + ts (zX S) (bl D k (i + 1)))
              omega
        · have tb : D.testBit i = false := by
            rw [z_tst0 (by omega) (by omega)] at qb
            simpa using qb
          have ebl : bl D (k + 1) i = bl D k (i + 1) := if_neg (by rw [tb]; simp)
          rw [ebl] at hrl hct hts
          rw [zw_suc (by omega)]
          exact ih (i + 1) pre r' T s N (by omega) hpr hrl hN hAN hTN hTb hs hct hts
    -- from nothing on
    have zero : ∀ (c y : Nat) (N : zM), y + c = 3 → zEk N M → mA N (some q) → (∀ y, 0 ≤ y ∧ y < 3 → N 155 y = 0) → zT g d mX12_coalBy K 19 [some (.inr (.inr ((0, 12), 119))), some (.inl (D : Int)), some (.inl f), some (.inl 0), some (.inl 0), some (.inl (y : Int))] [] N := by
      intro c
      induction c with
      | zero =>
        intro y N hy hN hAN hTN
        refine sX12_coalBy_19 ⟨fun _ => ?_, fun q => by omega⟩
        exact sums n 0 [] q.2 (fun _ => 0) 0 N (by omega) rfl (by rw [hr1]; exact hr2) hN hAN hTN (fun y => by simp) (by simp) hCT (by omega)
      | succ c ih =>
        intro y N hy hN hAN hTN
        refine sX12_coalBy_19 ⟨fun q => by omega, fun _ => ⟨by omega, ?_⟩⟩
        rw [zw_suc (by omega)]
        refine ih (y + 1) _ (by omega) (hN.u (Or.inr rfl)) (mA_same hAN (zU_off 143 (by omega)) (by rw [zU_off 119 (by omega)]) (by rw [zU_off 119 (by omega)])) (fun z hz => ?_)
        by_cases qz : z = (y : Int)
        · subst qz
          exact zU_eq
        · rw [zU_ne (by omega)]
          exact hTN z hz
    exact zero 3 0 M (by omega) (zEk.refl M) hA hTM
end
