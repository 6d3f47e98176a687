-- needs 9k
/-! morning, why, exchange: the reference's calls -/
section
variable {g : zG} {d : Nat} {K : Option zV → zM → Prop} {μ : zM} {nn t : Int} {S : zS}
theorem mS.er {μ' : zM} (hC : mS μ S) (hM : zEr μ' μ) (hv : vM μ' (S.1 14) (S.1 15 0) = S.1) (h42 : μ' 119 42 = 0) : mS μ' S := by
  have hCM : mS μ' (sY S S.1) := hC.yard ⟨hv, by rw [hM.1 138 (by omega), hM.2 28 (by omega)]; exact hC.1.2.1, h42⟩ (fun j hj hs => by unfold z_scm at hs; exact hM.1 j (by omega)) (fun i hi hs => by unfold z_scs at hs; exact hM.2 i (by omega))
  exact hCM
theorem mS.goT (hd : 340 ≤ d) (hC : mS μ S) (hI : iS nn S) (h : ∀ μ', zEr μ' μ → mS μ' S → (∀ t : Int, 0 ≤ t ∧ t < zX S 8 0 → r_nt μ' (mo_all S.1 (zX S)).2.2.2 (zX S 4 t) t) → K (some (.inl (mo_all S.1 (zX S)).2.2.1)) μ') : zCall g d 273 [.inr (.inr ((0, 12), 119))] μ K :=
  m_goThrough (co := S.1 14) (cn := S.1 15 0) hd hC.1.1 hI.W hI.R hC.1.2.1 (by have := hI.now; omega) hC.2.2.2.2.2.1 hI.2.2.2.2.2.2.1 hC.1.2.2 (fun M hM hv h42 hnt => h M hM (hC.er hM hv h42) hnt)
theorem M_morning (hd : 345 ≤ d) (hC : mS μ S) (hI : iS nn S) (h : ∀ μ', zEd μ' μ → mS μ' (o_morning S).2 → K (some (.inl (o_morning S).1)) μ') : zCall g d 275 [.inr (.inr ((0, 12), 119))] μ K := by
  have iN' : iN S.1 (zX S) := hI.2.2.2.2.2.2.1
  have hC0 : mS (zU μ 119 33 0) S := hC.thr
  have hE : zEd (zU μ 119 33 0) μ := (zEd.refl μ).u (by omega)
  unfold o_morning mo_row at h
  obtain ⟨n, en⟩ : ∃ n : Nat, zX S 8 0 = (n : Int) := ⟨(zX S 8 0).toNat, by have := iN'.1; omega⟩
  have n8 : n ≤ 8 := by have := iN'.1; omega
  rw [en, show ((n : Int)).toNat = n from by omega] at h
  refine sX12_morning ⟨by omega, ?_⟩
  generalize zU μ 119 33 0 = N0 at *
  refine mS.goT (by omega) hC0 hI (fun M hM hCM hnt => zi ?_)
  have loop : ∀ (k i : Nat) (N : zM), i + k = n → zE32 N M → mR N ((List.range i).map (fun t : Nat => (mo_all S.1 (zX S)).2.2.2 0 (t : Int))) → zT g d mX12_morning K 17 [some (.inr (.inr ((0, 12), 119))), some (.inl (mo_all S.1 (zX S)).2.2.1), some (.inl (i : Int))] [] N := by
    intro k
    induction k with
    | zero =>
      intro i N hi hN hr
      have e18 : N 119 18 = (n : Int) := by rw [hN.2 18 (by omega)]; exact (show M 119 18 = zX S 8 0 from hCM.2.2.2.2.2.1.1).trans en
      obtain rfl : i = n := by omega
      refine sX12_morning_17 ⟨fun _ => h N (fun j hj => by rw [hN.1 j (by omega), hM.1 j (by omega)]; exact hE j hj) (hCM.row (fun j _ hj => hN.1 j hj) (fun i _ hi => hN.2 i hi) hr), fun q => by omega⟩
    | succ k ih =>
      intro i N hi hN hr
      have e18 : N 119 18 = (n : Int) := by rw [hN.2 18 (by omega)]; exact (show M 119 18 = zX S 8 0 from hCM.2.2.2.2.2.1.1).trans en
      refine sX12_morning_17 ⟨fun q => by omega, fun _ => ⟨by omega, by omega, m_tellR hr (by simp; omega) (fun Q hQ hrQ => zn ?_)⟩⟩
      rw [zw_suc (by omega)]
      refine ih (i + 1) Q (by omega) (hQ.trans hN) ?_
      rw [hN.1 160 (by omega), (hnt (i : Int) (by omega)).1] at hrQ
      rw [List.range_succ, List.map_append]
      exact hrQ
  exact loop n 0 _ (by omega) zE32_0 mR_0
theorem M_why (hd : 345 ≤ d) (hC : mS μ S) (hI : iS nn S) (h : ∀ μ', zEd μ' μ → mS μ' (o_why S t).2 → K (some (.inl (o_why S t).1)) μ') : zCall g d 276 [.inr (.inr ((0, 12), 119)), .inl t] μ K := by
  have iN' : iN S.1 (zX S) := hI.2.2.2.2.2.2.1
  have hC0 : mS (zU μ 119 33 0) S := hC.thr
  have hE : zEd (zU μ 119 33 0) μ := (zEd.refl μ).u (by omega)
  have n8 := iN'.1
  unfold o_why at h
  refine sX12_why ⟨by omega, ?_⟩
  generalize zU μ 119 33 0 = N0 at *
  have e18 : N0 119 18 = zX S 8 0 := hC0.2.2.2.2.2.1.1
  refine m_isTrain (by omega) (by omega) (fun q => zb1 ⟨by omega, fun q1 => ?_, fun q1 => ?_⟩) (fun q => zb0 ?_)
  · rw [e18] at q
    rw [if_pos q] at h
    have e135 : N0 135 t = zX S 7 t := (hC0.2.2.2.2.2.1.2 t q).2.2.2
    rw [e135] at q1
    rw [if_neg q1] at h
    refine mS.goT (by omega) hC0 hI (fun M hM hCM hnt => zi ?_)
    obtain ⟨c0, c1⟩ := hnt t q
    have a0 := mo_all_0 (Y := S.1) (X := zX S) (t := t) q
    have hEM : zEd M μ := fun j hj => by rw [hM.1 j (by omega)]; exact hE j hj
    have m132 : M 132 t = zX S 4 t := (hCM.2.2.2.2.2.1.2 t q).1
    have b4 := (iN'.2.1 t q).1
    rw [c0]
    generalize (mo_all S.1 (zX S)).2.2.2 = L at *
    refine ⟨fun q2 => ⟨fun q3 => ?_, fun q3 => ?_⟩, fun q2 => ?_⟩
    · rw [if_neg q2, if_neg q3] at h
      obtain ⟨d1, d2, d3, d4, d5, d6⟩ := c1 (by omega)
      rw [m132, zwi (x := zX S 4 t - M 164 t) (by omega) (by omega), zwi (x := M 162 t - (zX S 4 t - M 164 t)) (by omega) (by omega)]
      have fin : ∀ u : Int, u = L 1 t → zT g d mX12_why K 95 [some (.inr (.inr ((0, 12), 119))), some (.inl t), some (.inl (zX S 4 t - M 164 t)), none, none, none] [.inl u] M := by
        intro u hu
        refine sX12_why_95 ⟨by omega, by omega, ?_⟩
        rw [zwi (x := M 163 t - (zX S 4 t - M 164 t)) (by omega) (by omega), ← d5, d6, hu]
        refine m_tellR mR_0 (by simp) (fun P hP hr => zn (m_tellR hr (by simp) (fun Q hQ hrQ => zn (m_tellR hrQ (by simp) (fun T hT hrT => zn ?_)))))
        have hT' := (hT.trans (hQ.trans hP)).trans zE32_0
        have f := h T (fun j hj => by rw [hT'.1 j (by omega)]; exact hEM j hj) (hCM.row (fun j _ hj => hT'.1 j hj) (fun i _ hi => hT'.2 i hi) hrT)
        refine ⟨fun r1 => ⟨fun r2 => ?_, fun r2 => ?_⟩, fun r1 => ⟨fun r2 => ⟨fun r3 => ?_, fun r3 => ?_⟩, fun r2 => ?_⟩⟩
        · rw [if_neg (fun hh => by omega), if_neg (by omega)] at f; exact f
        · rw [if_neg (fun hh => by omega), if_pos r2] at f; exact f
        · rw [if_neg (fun hh => by omega), if_neg (by omega)] at f; exact f
        · rw [if_neg (fun hh => by omega), if_pos r3] at f; exact f
        · rw [if_pos ⟨r1, r2⟩] at f; exact f
      exact ⟨fun q4 => fin 0 (by rw [d4, if_pos q4]), fun q4 => fin _ (by rw [d4, if_neg q4])⟩
    · rw [if_neg q2, if_pos q3] at h
      exact h M hEM hCM
    · rw [if_pos q2] at h
      exact h M hEM hCM
  · rw [e18] at q
    rw [if_pos q] at h
    have e135 : N0 135 t = zX S 7 t := (hC0.2.2.2.2.2.1.2 t q).2.2.2
    rw [e135] at q1
    rw [if_pos q1] at h
    exact h N0 hE hC0
  · rw [e18] at q
    rw [if_neg q] at h
    exact h N0 hE hC0
theorem M_exchange (hd : 350 ≤ d) (hC : mS μ S) (hI : iS nn S) (h : ∀ μ', zEd μ' μ → mS μ' (o_exchange S).2 → K (some (.inl (o_exchange S).1)) μ') : zCall g d 262 [.inr (.inr ((0, 12), 119))] μ K := by
  have iN' : iN S.1 (zX S) := hI.2.2.2.2.2.2.1
  have hC0 : mS (zU μ 119 33 0) S := hC.thr
  have hE : zEd (zU μ 119 33 0) μ := (zEd.refl μ).u (by omega)
  unfold o_exchange at h
  obtain ⟨n, en⟩ : ∃ n : Nat, zX S 8 0 = (n : Int) := ⟨(zX S 8 0).toNat, by have := iN'.1; omega⟩
  have n8 : n ≤ 8 := by have := iN'.1; omega
  have w := hI.env
  have eex : ex_all S.1 (zX S) = z_lp (ex_a S.1 (zX S) n) n 0 ((mo_all S.1 (zX S)).2.2.1, -1, -1) := by
    unfold ex_all
    rw [en, show ((n : Int)).toNat = n from by omega]
  refine sX12_exchange ⟨by omega, ?_⟩
  generalize zU μ 119 33 0 = N0 at *
  refine mS.goT (by omega) hC0 hI (fun M hM hCM hnt => zi ?_)
  have hEM : zEd M μ := fun j hj => by rw [hM.1 j (by omega)]; exact hE j hj
  have inner : ∀ (k a b : Nat) (q : Int × Int × Int) (N : zM), a < n → b + k = n → a < b → zEd N μ → mS N S → (∀ N', zEd N' μ → mS N' S → zT g d mX12_exchange K 17 [some (.inr (.inr ((0, 12), 119))), some (.inl (z_lp (ex_f S.1 (zX S) a) k b q).1), some (.inl (z_lp (ex_f S.1 (zX S) a) k b q).2.1), some (.inl (z_lp (ex_f S.1 (zX S) a) k b q).2.2), some (.inl (zw ((a : Int) + 1))), none, none] [] N') → zT g d mX12_exchange K 32 [some (.inr (.inr ((0, 12), 119))), some (.inl q.1), some (.inl q.2.1), some (.inl q.2.2), some (.inl (a : Int)), some (.inl (b : Int)), none] [] N := by
    intro k
    induction k with
    | zero =>
      intro a b q N ha hb hab hEN hCN hfin
      have e18 : N 119 18 = (n : Int) := (show N 119 18 = zX S 8 0 from hCN.2.2.2.2.2.1.1).trans en
      exact sX12_exchange_32 ⟨fun _ => hfin N hEN hCN, fun x => by omega⟩
    | succ k ih =>
      intro a b q N ha hb hab hEN hCN hfin
      have hmN : mN N (zX S) := hCN.2.2.2.2.2.1
      have e18 : N 119 18 = (n : Int) := hmN.1.trans en
      have n135 : ∀ i : Int, 0 ≤ i ∧ i < (n : Int) → N 135 i = zX S 7 i := fun i hi => (hmN.2 i (by omega)).2.2.2
      have hXa := (iN'.2.1 (a : Int) (by omega)).2
      have hXb := (iN'.2.1 (b : Int) (by omega)).2
      have next : ∀ (N' : zM) (q' : Int × Int × Int), zEd N' μ → mS N' S → ex_f S.1 (zX S) a b q = q' → zT g d mX12_exchange K 32 [some (.inr (.inr ((0, 12), 119))), some (.inl q'.1), some (.inl q'.2.1), some (.inl q'.2.2), some (.inl (a : Int)), some (.inl (zw ((b : Int) + 1))), none] [] N' := by
        intro N' q' k1 k1' k2
        rw [zw_suc (by omega)]
        refine ih a (b + 1) q' N' ha (by omega) (by omega) k1 k1' (fun N2 hN2 hN2' => ?_)
        have := hfin N2 hN2 hN2'
        rw [show z_lp (ex_f S.1 (zX S) a) (k + 1) b q = z_lp (ex_f S.1 (zX S) a) k (b + 1) q' from by rw [← k2]; rfl] at this
        exact this
      refine sX12_exchange_32 ⟨fun x => by omega, fun _ => ⟨by omega, ?_⟩⟩
      rw [n135 (a : Int) (by omega), n135 (b : Int) (by omega)]
      refine ⟨fun q1 => next N q hEN hCN (if_neg (fun hh => hh.1.1 q1)), fun q1 => ⟨by omega, fun q2 => next N q hEN hCN (if_neg (fun hh => hh.1.2.1 q2)), fun q2 => ⟨by omega, ?_⟩⟩⟩
      have hv := hCN.1.1
      refine m_isFit (X := zX S) (Y := S.1) (co := S.1 14) (cn := S.1 15 0) (hCN.W hI) hmN iN' (by rw [hCN.env.2.2.2.1]; omega) (by omega) (fun f1 => zb1 ?_) (fun f1 => zb0 (next N q hEN hCN (if_neg (fun hh => ?_))))
      · rw [n135 (b : Int) (by omega)]
        refine m_isFit (X := zX S) (Y := S.1) (co := S.1 14) (cn := S.1 15 0) (hCN.W hI) hmN iN' (by rw [hCN.env.2.2.2.1]; omega) (by omega) (fun f2 => zb1 ?_) (fun f2 => zb0 (next N q hEN hCN (if_neg (fun hh => ?_))))
        · rw [hv] at f1 f2
          refine sX12_swap ⟨by omega, by omega, zn ?_⟩
          generalize hP : zU (zU N 135 (a : Int) (N 135 (b : Int))) 135 (b : Int) (N 135 (a : Int)) = P
          have pj : ∀ j, ¬ j = 135 → P j = N j := fun j hj => by rw [← hP, zU_off j hj, zU_off j hj]
          have p135 : ∀ i : Int, 0 ≤ i ∧ i < (n : Int) → P 135 i = ex_sw (zX S) (a : Int) (b : Int) 7 i := by
            intro i hi
            rw [← hP]
            unfold ex_sw
            by_cases x1 : i = (b : Int)
            · subst x1
              rw [zU_eq, zU_eq]
              exact n135 _ (by omega)
            · rw [zU_ne (by omega), zU_ne (μ := zU (zX S) 7 (a : Int) (zX S 7 (b : Int))) (by omega)]
              by_cases x2 : i = (a : Int)
              · subst x2
                rw [zU_eq, zU_eq]
                exact n135 _ (by omega)
              · rw [zU_ne (by omega), zU_ne (by omega)]
                exact n135 _ (by omega)
          have k8 : ex_sw (zX S) (a : Int) (b : Int) 8 = zX S 8 := ex_sw_k (by omega)
          have mNP : mN P (ex_sw (zX S) (a : Int) (b : Int)) := by
            unfold mN
            rw [k8, ex_sw_k (k := 4) (by omega), ex_sw_k (k := 5) (by omega), ex_sw_k (k := 6) (by omega), pj 119 (by omega), pj 132 (by omega), pj 133 (by omega), pj 134 (by omega)]
            exact ⟨hmN.1, fun i hi => ⟨(hmN.2 i hi).1, (hmN.2 i hi).2.1, (hmN.2 i hi).2.2.1, p135 i (by omega)⟩⟩
          have vP : vM P (S.1 14) (S.1 15 0) = S.1 := by
            rw [← hP, mUo (by omega), mUo (by omega)]
            exact hv
          refine m_goThrough (co := S.1 14) (cn := S.1 15 0) (by omega) vP hI.W hI.R (by rw [pj 138 (by omega), pj 119 (by omega)]; exact hCN.1.2.1) (by have := hI.now; omega) mNP (ex_iN iN' (by omega) (by omega)) (by rw [pj 119 (by omega)]; exact hCN.1.2.2) (fun Q hQ hvQ q42 hntQ => zi (sX12_swap ⟨by omega, by omega, zn ?_⟩))
          have back : zEr (zU (zU Q 135 (a : Int) (Q 135 (b : Int))) 135 (b : Int) (Q 135 (a : Int))) N := by
            refine ⟨fun j hj => ?_, fun i hi => by rw [zU_off 119 (by omega), zU_off 119 (by omega), hQ.2 i hi, pj 119 (by omega)]⟩
            by_cases x : j = 135
            · subst x
              funext i
              rw [hQ.1 135 (by omega), ← hP]
              by_cases x1 : i = (b : Int)
              · subst x1
                rw [zU_eq, zU_ne (by omega), zU_eq]
              · rw [zU_ne (by omega)]
                by_cases x2 : i = (a : Int)
                · subst x2
                  rw [zU_eq, zU_eq]
                · rw [zU_ne (by omega), hQ.1 135 (by omega), ← hP, zU_ne (by omega), zU_ne (by omega)]
            · rw [zU_off j x, zU_off j x, hQ.1 j hj, pj j x]
          have backC : mS (zU (zU Q 135 (a : Int) (Q 135 (b : Int))) 135 (b : Int) (Q 135 (a : Int))) S := hCN.er back (by rw [mUo (by omega), mUo (by omega)]; exact hvQ) (by rw [zU_off 119 (by omega), zU_off 119 (by omega)]; exact q42)
          have backE : zEd (zU (zU Q 135 (a : Int) (Q 135 (b : Int))) 135 (b : Int) (Q 135 (a : Int))) μ := fun j hj => by rw [back.1 j (by omega)]; exact hEN j hj
          exact ⟨fun r => next _ _ backE backC (if_pos ⟨⟨q1, q2, f1, f2⟩, r⟩), fun r => next _ q backE backC (if_neg (fun hh => by omega))⟩
        · rw [hv] at f2
          rw [hh.1.2.2.2] at f2
          cases f2
      · rw [hv] at f1
        rw [hh.1.2.2.1] at f1
        cases f1
  have outer : ∀ (k a : Nat) (q : Int × Int × Int) (N : zM), a + k = n → zEd N μ → mS N S → ex_all S.1 (zX S) = z_lp (ex_a S.1 (zX S) n) k a q → zT g d mX12_exchange K 17 [some (.inr (.inr ((0, 12), 119))), some (.inl q.1), some (.inl q.2.1), some (.inl q.2.2), some (.inl (a : Int)), none, none] [] N := by
    intro k
    induction k with
    | zero =>
      intro a q N hk hEN hCN hz
      have hz : ex_all S.1 (zX S) = q := hz
      rw [hz] at h
      have e18 : N 119 18 = (n : Int) := (show N 119 18 = zX S 8 0 from hCN.2.2.2.2.2.1.1).trans en
      refine sX12_exchange_17 ⟨fun _ => ⟨fun x => ?_, fun x => ⟨by omega, m_tellR mR_0 (by simp) (fun P hP hr => zn (m_tellR hr (by simp) (fun Q hQ hrQ => zn ?_)))⟩⟩, fun x => by omega⟩
      · rw [if_pos x] at h
        have e := zE32_0 (μ := N) (x := 0)
        exact h _ (fun j hj => by rw [e.1 j (by omega)]; exact hEN j hj) (hCN.row (fun j _ hj => e.1 j hj) (fun i _ hi => e.2 i hi) mR_0)
      · rw [if_neg x] at h
        have e := (hQ.trans hP).trans zE32_0
        exact h Q (fun j hj => by rw [e.1 j (by omega)]; exact hEN j hj) (hCN.row (fun j _ hj => e.1 j hj) (fun i _ hi => e.2 i hi) hrQ)
    | succ k ih =>
      intro a q N hk hEN hCN hz
      have e18 : N 119 18 = (n : Int) := (show N 119 18 = zX S 8 0 from hCN.2.2.2.2.2.1.1).trans en
      refine sX12_exchange_17 ⟨fun x => by omega, fun _ => ?_⟩
      rw [zw_suc (by omega)]
      refine inner (n - (a + 1)) a (a + 1) q N (by omega) (by omega) (by omega) hEN hCN (fun N' hN' hCN' => ?_)
      rw [zw_suc (by omega)]
      exact ih (a + 1) (z_lp (ex_f S.1 (zX S) a) (n - (a + 1)) (a + 1) q) N' (by omega) hN' hCN' hz
  exact outer n 0 _ M (by omega) hEM hCM eex
end
