-- needs 9g
/-! morning, why, exchange: the class's calls -/
def mo_row (Y X : zM) : List Int := (List.range (X 8 0).toNat).map (fun t : Nat => (mo_all Y X).2.2.2 0 (t : Int))
def o_morning (S : zS) : Int × zS := ((mo_all S.1 (zX S)).2.2.1, sR S (mo_row S.1 (zX S)))
def o_why (S : zS) (t : Int) : Int × zS :=
  if 0 ≤ t ∧ t < zX S 8 0 then
    (if zX S 7 t = -1 then (-2, S)
    else if (mo_all S.1 (zX S)).2.2.2 0 t = -1 then (5, S)
    else if (mo_all S.1 (zX S)).2.2.2 0 t = 0 then (0, S)
    else (if (mo_all S.1 (zX S)).2.2.2 2 t ≤ (mo_all S.1 (zX S)).2.2.2 1 t ∧ (mo_all S.1 (zX S)).2.2.2 3 t ≤ (mo_all S.1 (zX S)).2.2.2 1 t then 1 else if (mo_all S.1 (zX S)).2.2.2 3 t ≤ (mo_all S.1 (zX S)).2.2.2 2 t then 2 else 3, sR S [(mo_all S.1 (zX S)).2.2.2 1 t, (mo_all S.1 (zX S)).2.2.2 2 t, (mo_all S.1 (zX S)).2.2.2 3 t]))
  else (-1, S)
def ex_sw (X : zM) (a b : Int) : zM := zU (zU X 7 a (X 7 b)) 7 b (X 7 a)
def ex_f (Y X : zM) (a b : Nat) (q : Int × Int × Int) : Int × Int × Int :=
  if (¬ X 7 (a : Int) = -1 ∧ ¬ X 7 (b : Int) = -1 ∧ f_fit Y X (X 7 (a : Int)) (b : Int) = true ∧ f_fit Y X (X 7 (b : Int)) (a : Int) = true) ∧ (mo_all Y (ex_sw X (a : Int) (b : Int))).2.2.1 < q.1 then ((mo_all Y (ex_sw X (a : Int) (b : Int))).2.2.1, (a : Int), (b : Int)) else q
def ex_a (Y X : zM) (n a : Nat) (q : Int × Int × Int) : Int × Int × Int := z_lp (ex_f Y X a) (n - (a + 1)) (a + 1) q
def ex_all (Y X : zM) : Int × Int × Int := z_lp (ex_a Y X (X 8 0).toNat) (X 8 0).toNat 0 ((mo_all Y X).2.2.1, -1, -1)
def o_exchange (S : zS) : Int × zS := ((ex_all S.1 (zX S)).1, sR S (if (ex_all S.1 (zX S)).2.1 = -1 then [] else [(ex_all S.1 (zX S)).2.1, (ex_all S.1 (zX S)).2.2]))
theorem mo_step_0 {X : zM} {b t : Int} {q : zMo} : ((mo_step X b t q).2.2.2 0 t = -2 ∧ X 7 t = -1) ∨ (¬ X 7 t = -1 ∧ -1 ≤ (mo_step X b t q).2.2.2 0 t) := by
  unfold mo_step
  by_cases q1 : X 7 t = -1
  · rw [if_pos q1]
    exact Or.inl ⟨zU_eq, q1⟩
  · rw [if_neg q1]
    refine Or.inr ⟨q1, ?_⟩
    split
    · simp only []; rw [zU_eq]; omega
    · split
      · simp only []; rw [mo_L_at.1]; omega
      · split
        · simp only []; rw [mo_L_at.1]; omega
        · simp only []; rw [zU_eq]; omega
theorem mo_go_0 {X : zM} {b : Int} {n : Nat} : ∀ (k done : Nat) (q : zMo), fr_c done n + k = n → (∀ o, o < n → done.testBit o = true → (q.2.2.2 0 (o : Int) = -2 ∧ X 7 (o : Int) = -1) ∨ (¬ X 7 (o : Int) = -1 ∧ -1 ≤ q.2.2.2 0 (o : Int))) → ∀ o, o < n → ((mo_go X b n k done q).2.2.2 0 (o : Int) = -2 ∧ X 7 (o : Int) = -1) ∨ (¬ X 7 (o : Int) = -1 ∧ -1 ≤ (mo_go X b n k done q).2.2.2 0 (o : Int))
  | 0, done, q, hk, hq, o, ho => hq o ho (fr_c_all done n (by omega) o ho)
  | k + 1, done, q, hk, hq, o, ho => by
    obtain ⟨p, h1, h2, h3, h4⟩ := mo_pick_ok (X := X) (done := done) (n := n) (by omega)
    have e : mo_go X b n (k + 1) done q = mo_go X b n k (done ||| 2 ^ p) (mo_step X b (p : Int) q) := by
      show mo_go X b n k (done ||| 2 ^ (mo_pick X n done).toNat) (mo_step X b (mo_pick X n done) q) = _
      rw [h1, show ((p : Int)).toNat = p from by omega]
    rw [e]
    refine mo_go_0 k (done ||| 2 ^ p) _ (by omega) (fun o' ho' hd' => ?_) o ho
    by_cases q9 : o' = p
    · subst q9
      exact mo_step_0
    · rw [mo_step_L (by omega)]
      rw [or_test, decide_eq_false (by omega), Bool.or_false] at hd'
      exact hq o' ho' hd'
theorem mo_all_0 {Y X : zM} {t : Int} (ht : 0 ≤ t ∧ t < X 8 0) : ((mo_all Y X).2.2.2 0 t = -2 ∧ X 7 t = -1) ∨ (¬ X 7 t = -1 ∧ -1 ≤ (mo_all Y X).2.2.2 0 t) := by
  have := mo_go_0 (X := X) (b := Y 5 1) (n := (X 8 0).toNat) (X 8 0).toNat 0 (mo_lit Y X, Y 5 1, 0, fun _ _ => 0) (by rw [fr_c_zz]; omega) (fun o _ hd => by simp at hd) t.toNat (by omega)
  rw [show ((t.toNat : Nat) : Int) = t from by omega] at this
  exact this
theorem ex_sw_7 {X : zM} {a b i : Int} : ex_sw X a b 7 i = X 7 (if i = a then b else if i = b then a else i) := by
  unfold ex_sw
  by_cases q : i = b
  · subst q
    rw [zU_eq]
    by_cases q2 : i = a
    · rw [if_pos q2, q2]
    · rw [if_neg q2, if_pos rfl]
  · rw [zU_ne (by omega)]
    by_cases q2 : i = a
    · subst q2
      rw [zU_eq, if_pos rfl]
    · rw [zU_ne (by omega), if_neg q2, if_neg q]
theorem ex_sw_k {X : zM} {a b : Int} {k : Nat} (h : ¬ k = 7) : ex_sw X a b k = X k := by
  unfold ex_sw
  rw [zU_off k h, zU_off k h]
theorem ex_iN {Y X : zM} {a b : Int} (h : iN Y X) (ha : 0 ≤ a ∧ a < X 8 0) (hb : 0 ≤ b ∧ b < X 8 0) : iN Y (ex_sw X a b) := by
  obtain ⟨h1, h2, h3, h4⟩ := h
  have e8 : ex_sw X a b 8 = X 8 := ex_sw_k (by omega)
  have rng : ∀ i, 0 ≤ i ∧ i < X 8 0 → 0 ≤ (if i = a then b else if i = b then a else i) ∧ (if i = a then b else if i = b then a else i) < X 8 0 := fun i hi => by split <;> (try split) <;> omega
  unfold iN
  rw [e8, ex_sw_k (k := 4) (by omega), ex_sw_k (k := 5) (by omega), ex_sw_k (k := 6) (by omega)]
  refine ⟨h1, fun i hi => ⟨(h2 i hi).1, ?_⟩, fun i hi => ?_, fun i j hi hj hne e => ?_⟩
  · rw [ex_sw_7]
    exact (h2 _ (rng i hi)).2
  · rw [ex_sw_7, if_neg (by omega), if_neg (by omega)]
    exact h3 i hi
  · rw [ex_sw_7] at hne
    rw [ex_sw_7, ex_sw_7] at e
    have := h4 _ _ (rng i hi) (rng j hj) hne e
    by_cases q1 : i = a
    · rw [if_pos q1] at this
      by_cases q2 : j = a
      · omega
      · rw [if_neg q2] at this
        by_cases q3 : j = b
        · rw [if_pos q3] at this; omega
        · rw [if_neg q3] at this; omega
    · rw [if_neg q1] at this
      by_cases q4 : i = b
      · rw [if_pos q4] at this
        by_cases q2 : j = a
        · rw [if_pos q2] at this; omega
        · rw [if_neg q2] at this
          by_cases q3 : j = b
          · omega
          · rw [if_neg q3] at this; omega
      · rw [if_neg q4] at this
        by_cases q2 : j = a
        · rw [if_pos q2] at this; omega
        · rw [if_neg q2] at this
          by_cases q3 : j = b
          · rw [if_pos q3] at this; omega
          · rw [if_neg q3] at this; omega
section
variable {g : zG} {d : Nat} {K : Option zV → zM → Prop} {μ : zM} {nn t : Int} {S : zS}
theorem cS.goT (hd : 8 ≤ d) (hC : cS μ S) (hI : iS nn S) (h : ∀ μ', zE92 μ' μ → cS μ' S → (∀ t : Int, 0 ≤ t ∧ t < zX S 8 0 → c_nt μ' (mo_all S.1 (zX S)).2.2.2 t) → K (some (.inl (mo_all S.1 (zX S)).2.2.1)) μ') : zCall g d 22 [.inr (.inr ((0, 2), 92))] μ K :=
  c_goThrough hd hC.1.2.1 hC.1.1 hI.W hI.R (by have := hI.now; omega) hC.2.2.2.2.2.1 hI.2.2.2.2.2.2.1 (fun M hM hnt => h M hM (hC.scr (fun j hj => hM j (by unfold z_scr at hj; omega))) hnt)
theorem C_morning (hd : 10 ≤ d) (hC : cS μ S) (hI : iS nn S) (h : ∀ μ', zEc μ' μ → cS μ' (o_morning S).2 → K (some (.inl (o_morning S).1)) μ') : zCall g d 153 [.inr (.inr ((0, 11), 0))] μ K := by
  have iN' : iN S.1 (zX S) := hI.2.2.2.2.2.2.1
  unfold o_morning mo_row at h
  obtain ⟨n, en⟩ : ∃ n : Nat, zX S 8 0 = (n : Int) := ⟨(zX S 8 0).toNat, by have := iN'.1; omega⟩
  have n8 : n ≤ 8 := by have := iN'.1; omega
  rw [en, show ((n : Int)).toNat = n from by omega] at h
  refine sX11_morning ⟨by omega, cS.goT (by omega) hC hI (fun M hM hCM hnt => zi (c_emptyR (fun P hP hr => zn ?_)))⟩
  have loop : ∀ (k i : Nat) (N : zM), i + k = n → zE18 N M → cR N ((List.range i).map (fun t : Nat => (mo_all S.1 (zX S)).2.2.2 0 (t : Int))) → zT g d mX11_morning K 17 [some (.inr (.inr ((0, 11), 0))), some (.inl (mo_all S.1 (zX S)).2.2.1), some (.inl (i : Int))] [] N := by
    intro k
    induction k with
    | zero =>
      intro i N hi hN hr
      have e78 : N 78 3 = (n : Int) := by rw [hN 78 (by omega)]; exact (show M 78 3 = zX S 8 0 from hCM.2.2.2.2.2.1.1).trans en
      obtain rfl : i = n := by omega
      refine sX11_morning_17 ⟨fun _ => h N (fun j hj => by rw [hN j (by omega), hM j (by omega)]) (hCM.row (fun j _ hj => hN j hj) hr), fun q => by omega⟩
    | succ k ih =>
      intro i N hi hN hr
      have e78 : N 78 3 = (n : Int) := by rw [hN 78 (by omega)]; exact (show M 78 3 = zX S 8 0 from hCM.2.2.2.2.2.1.1).trans en
      refine sX11_morning_17 ⟨fun q => by omega, fun _ => ⟨by omega, by omega, c_tellR hr (by simp; omega) (fun Q hQ hrQ => zn ?_)⟩⟩
      rw [zw_suc (by omega)]
      refine ih (i + 1) Q (by omega) (fun j hj => by rw [hQ j hj, hN j hj]) ?_
      rw [hN 98 (by omega), (hnt (i : Int) (by omega)).1] at hrQ
      rw [List.range_succ, List.map_append]
      exact hrQ
  exact loop n 0 P (by omega) hP hr
theorem C_why (hd : 10 ≤ d) (hC : cS μ S) (hI : iS nn S) (h : ∀ μ', zEc μ' μ → cS μ' (o_why S t).2 → K (some (.inl (o_why S t).1)) μ') : zCall g d 154 [.inr (.inr ((0, 11), 0)), .inl t] μ K := by
  have iN' : iN S.1 (zX S) := hI.2.2.2.2.2.2.1
  have e78 : μ 78 3 = zX S 8 0 := hC.2.2.2.2.2.1.1
  have n8 := iN'.1
  unfold o_why at h
  refine sX11_why ⟨by omega, c_hasT (fun q => zb1 ?_) (fun q => zb0 ?_)⟩
  · rw [e78] at q
    rw [if_pos q] at h
    refine sX2_causeOf ⟨by omega, cS.goT (by omega) hC hI (fun M hM hCM hnt => zi ⟨by omega, ?_⟩)⟩
    obtain ⟨c0, c1⟩ := hnt t q
    have a0 := mo_all_0 (Y := S.1) (X := zX S) (t := t) q
    have hE : zEc M μ := fun j hj => hM j (by omega)
    rw [c0]
    generalize (mo_all S.1 (zX S)).2.2.2 = L at *
    refine ⟨fun q1 => ?_, fun q1 => ⟨fun q2 => ⟨fun q3 => ?_, fun q3 => ?_⟩, fun q2 => ?_⟩⟩
    · rw [if_pos (by omega)] at h
      rw [q1]
      exact zi (h M hE hCM)
    · rw [if_neg (by omega), if_neg q3, if_neg q2] at h
      obtain ⟨d1, d2, d3⟩ := c1 (by omega)
      rw [d1, d2]
      refine c_tellTwoR (by omega) (fun P hP hr => zn (c_tellR hr (by simp) (fun Q hQ hrQ => zn ?_)))
      have q99 : Q 99 t = L 1 t := by rw [hQ 99 (by omega), hP 99 (by omega)]; exact d1
      have q100 : Q 100 t = L 2 t := by rw [hQ 100 (by omega), hP 100 (by omega)]; exact d2
      have q101 : Q 101 t = L 3 t := by rw [hQ 101 (by omega), hP 101 (by omega)]; exact d3
      have hrQ' : cR Q [L 1 t, L 2 t, L 3 t] := by
        rw [hP 101 (by omega), d3] at hrQ
        exact hrQ
      have fin := h Q (fun j hj => by rw [hQ j (by omega), hP j (by omega), hM j (by omega)]) (hCM.row (fun j _ hj => by rw [hQ j hj, hP j hj]) hrQ')
      rw [q99, q100, q101]
      refine ⟨fun r1 => ⟨fun r2 => zi ?_, fun r2 => zi ?_⟩, fun r1 => ⟨fun r2 => ⟨fun r3 => zi ?_, fun r3 => zi ?_⟩, fun r2 => zi ?_⟩⟩
      · rw [if_neg (fun hh => by omega), if_neg (by omega)] at fin; exact fin
      · rw [if_neg (fun hh => by omega), if_pos r2] at fin; exact fin
      · rw [if_neg (fun hh => by omega), if_neg (by omega)] at fin; exact fin
      · rw [if_neg (fun hh => by omega), if_pos r3] at fin; exact fin
      · rw [if_pos ⟨r1, r2⟩] at fin; exact fin
    · rw [if_neg (by omega), if_pos q3] at h
      exact zi (h M hE hCM)
    · rw [if_neg (by omega), if_neg (by omega), if_pos q2] at h
      rw [q2]
      exact zi (h M hE hCM)
  · rw [e78] at q
    rw [if_neg q] at h
    exact h μ (zEc.refl μ) hC
theorem C_exchange (hd : 12 ≤ d) (hC : cS μ S) (hI : iS nn S) (h : ∀ μ', zEc μ' μ → cS μ' (o_exchange S).2 → K (some (.inl (o_exchange S).1)) μ') : zCall g d 148 [.inr (.inr ((0, 11), 0))] μ K := by
  have iN' : iN S.1 (zX S) := hI.2.2.2.2.2.2.1
  have hN : cN μ (zX S) := hC.2.2.2.2.2.1
  unfold o_exchange at h
  obtain ⟨n, en⟩ : ∃ n : Nat, zX S 8 0 = (n : Int) := ⟨(zX S 8 0).toNat, by have := iN'.1; omega⟩
  have n8 : n ≤ 8 := by have := iN'.1; omega
  have eex : ex_all S.1 (zX S) = z_lp (ex_a S.1 (zX S) n) n 0 ((mo_all S.1 (zX S)).2.2.1, -1, -1) := by
    unfold ex_all
    rw [en, show ((n : Int)).toNat = n from by omega]
  refine sX11_exchange ⟨by omega, sX2_bestExchange ⟨by omega, cS.goT (by omega) hC hI (fun M hM hCM hnt => zi ?_)⟩⟩
  -- the second of two
  have inner : ∀ (k a b : Nat) (q : Int × Int × Int) (N : zM), a < n → b + k = n → a < b → zE92 N μ → (∀ N', zE92 N' μ → zT g (d - 1) mX2_bestExchange (zIi fun r2 μ1 => K (some (.inl r2)) μ1) 12 [some (.inr (.inr ((0, 2), 92))), some (.inl (z_lp (ex_f S.1 (zX S) a) k b q).1), some (.inl (z_lp (ex_f S.1 (zX S) a) k b q).2.1), some (.inl (z_lp (ex_f S.1 (zX S) a) k b q).2.2), some (.inl (zw ((a : Int) + 1))), none, none] [] N') → zT g (d - 1) mX2_bestExchange (zIi fun r2 μ1 => K (some (.inl r2)) μ1) 30 [some (.inr (.inr ((0, 2), 92))), some (.inl q.1), some (.inl q.2.1), some (.inl q.2.2), some (.inl (a : Int)), some (.inl (b : Int)), none] [] N := by
    intro k
    induction k with
    | zero =>
      intro a b q N ha hb hab hE hfin
      have e78 : N 78 3 = (n : Int) := by rw [hE 78 (by omega), hN.1, en]
      exact sX2_bestExchange_30 ⟨fun _ => hfin N hE, fun x => by omega⟩
    | succ k ih =>
      intro a b q N ha hb hab hE hfin
      have e78 : N 78 3 = (n : Int) := by rw [hE 78 (by omega), hN.1, en]
      have hCN : cS N S := hC.scr (fun j hj => hE j (by unfold z_scr at hj; omega))
      have n82 : ∀ i : Int, 0 ≤ i ∧ i < 8 → N 82 i = zX S 7 i := hCN.2.2.2.2.2.1.2.2.1
      have hXa := (iN'.2.1 (a : Int) (by omega)).2
      have hXb := (iN'.2.1 (b : Int) (by omega)).2
      have w := hI.env
      have next : ∀ (N' : zM) (q' : Int × Int × Int), zE92 N' μ → ex_f S.1 (zX S) a b q = q' → zT g (d - 1) mX2_bestExchange (zIi fun r2 μ1 => K (some (.inl r2)) μ1) 30 [some (.inr (.inr ((0, 2), 92))), some (.inl q'.1), some (.inl q'.2.1), some (.inl q'.2.2), some (.inl (a : Int)), some (.inl (zw ((b : Int) + 1))), none] [] N' := by
        intro N' q' k1 k2
        rw [zw_suc (by omega)]
        refine ih a (b + 1) q' N' ha (by omega) (by omega) k1 (fun N2 hN2 => ?_)
        have := hfin N2 hN2
        rw [show z_lp (ex_f S.1 (zX S) a) (k + 1) b q = z_lp (ex_f S.1 (zX S) a) k (b + 1) q' from by rw [← k2]; rfl] at this
        exact this
      refine sX2_bestExchange_30 ⟨fun x => by omega, fun _ => ⟨by omega, sX2_canExchange ⟨by omega, by omega, ?_⟩⟩⟩
      rw [n82 (a : Int) (by omega), n82 (b : Int) (by omega)]
      refine ⟨fun q1 => zb0 (next N q hE (if_neg (fun hh => hh.1.1 q1))), fun q1 => ⟨fun q2 => zb0 (next N q hE (if_neg (fun hh => hh.1.2.1 q2))), fun q2 => ⟨by omega, ?_⟩⟩⟩
      refine c_suits (X := zX S) (Y := S.1) (by omega) (hCN.W hI) hCN.2.2.2.2.2.1 iN' (by omega) (by omega) (fun f1 => zb1 (c_suits (X := zX S) (Y := S.1) (by omega) (hCN.W hI) hCN.2.2.2.2.2.1 iN' (by omega) (by omega) (fun f2 => zb1 (zb1 ?_)) (fun f2 => zb0 (zb0 (next N q hE (if_neg (fun hh => ?_))))))) (fun f1 => zb0 (zb0 (next N q hE (if_neg (fun hh => ?_)))))
      · rw [hCN.1.1] at f1 f2
        refine sX2_swap ⟨by omega, by omega, zn ?_⟩
        generalize hP : zU (zU N 82 (a : Int) (N 82 (b : Int))) 82 (b : Int) (N 82 (a : Int)) = P
        have pj : ∀ j, ¬ j = 82 → P j = N j := fun j hj => by rw [← hP, zU_off j hj, zU_off j hj]
        have p82 : ∀ i : Int, 0 ≤ i ∧ i < 8 → P 82 i = ex_sw (zX S) (a : Int) (b : Int) 7 i := by
          intro i hi
          rw [← hP]
          unfold ex_sw
          by_cases x1 : i = (b : Int)
          · subst x1
            rw [zU_eq, zU_eq]
            exact n82 _ (by omega)
          · rw [zU_ne (by omega), zU_ne (μ := zU (zX S) 7 (a : Int) (zX S 7 (b : Int))) (by omega)]
            by_cases x2 : i = (a : Int)
            · subst x2
              rw [zU_eq, zU_eq]
              exact n82 _ (by omega)
            · rw [zU_ne (by omega), zU_ne (by omega)]
              exact n82 _ (by omega)
        have k8 : ex_sw (zX S) (a : Int) (b : Int) 8 = zX S 8 := ex_sw_k (by omega)
        have cNP : cN P (ex_sw (zX S) (a : Int) (b : Int)) := by
          have c := hCN.2.2.2.2.2.1
          unfold cN
          rw [k8, ex_sw_k (k := 4) (by omega), ex_sw_k (k := 5) (by omega), ex_sw_k (k := 6) (by omega), pj 78 (by omega), pj 79 (by omega), pj 80 (by omega), pj 81 (by omega), pj 83 (by omega)]
          exact ⟨c.1, c.2.1, p82, c.2.2.2⟩
        have rP : zrl P := zrl_same hCN.1.2.1 (pj 12 (by omega))
        have vP : vC P 20 = S.1 := by rw [← hCN.1.1]; exact vC_off (by omega) hCN.1.2.1 (fun j hj => pj j (by omega))
        refine c_goThrough (by omega) rP vP hI.W hI.R (by have := hI.now; omega) cNP (ex_iN iN' (by omega) (by omega)) (fun Q hQ hnt => zi (sX2_swap ⟨by omega, by omega, zn ?_⟩))
        have back : zE92 (zU (zU Q 82 (a : Int) (Q 82 (b : Int))) 82 (b : Int) (Q 82 (a : Int))) μ := by
          intro j hj
          by_cases x : j = 82
          · subst x
            rw [← hE 82 hj]
            funext i
            rw [hQ 82 (by omega), ← hP]
            by_cases x1 : i = (b : Int)
            · subst x1
              rw [zU_eq, zU_ne (by omega), zU_eq]
            · rw [zU_ne (by omega)]
              by_cases x2 : i = (a : Int)
              · subst x2
                rw [zU_eq, zU_eq]
              · rw [zU_ne (by omega), hQ 82 (by omega), ← hP, zU_ne (by omega), zU_ne (by omega)]
          · rw [zU_off j x, zU_off j x, hQ j hj, pj j x]
            exact hE j hj
        refine ⟨fun r => next _ q back (if_neg (fun hh => by omega)), fun r => next _ _ back (if_pos ⟨⟨q1, q2, f1, f2⟩, r⟩)⟩
      · rw [hCN.1.1] at f2
        rw [hh.1.2.2.2] at f2
        cases f2
      · rw [hCN.1.1] at f1
        rw [hh.1.2.2.1] at f1
        cases f1
  have outer : ∀ (k a : Nat) (q : Int × Int × Int) (N : zM), a + k = n → zE92 N μ → ex_all S.1 (zX S) = z_lp (ex_a S.1 (zX S) n) k a q → zT g (d - 1) mX2_bestExchange (zIi fun r2 μ1 => K (some (.inl r2)) μ1) 12 [some (.inr (.inr ((0, 2), 92))), some (.inl q.1), some (.inl q.2.1), some (.inl q.2.2), some (.inl (a : Int)), none, none] [] N := by
    intro k
    induction k with
    | zero =>
      intro a q N hk hE hz
      have hz : ex_all S.1 (zX S) = q := hz
      rw [hz] at h
      have e78 : N 78 3 = (n : Int) := by rw [hE 78 (by omega), hN.1, en]
      have hCN : cS N S := hC.scr (fun j hj => hE j (by unfold z_scr at hj; omega))
      refine sX2_bestExchange_12 ⟨fun _ => ⟨by omega, c_emptyR (fun P hP hr => zn ⟨fun x => zi ?_, fun x => c_tellTwoR (by omega) (fun Q hQ hrQ => zn (zi ?_))⟩)⟩, fun x => by omega⟩
      · rw [if_pos x] at h
        exact h P (fun j hj => by rw [hP j (by omega), hE j (by omega)]) (hCN.row (fun j _ hj => hP j hj) hr)
      · rw [if_neg x] at h
        exact h Q (fun j hj => by rw [hQ j (by omega), hP j (by omega), hE j (by omega)]) (hCN.row (fun j _ hj => by rw [hQ j hj, hP j hj]) hrQ)
    | succ k ih =>
      intro a q N hk hE hz
      have e78 : N 78 3 = (n : Int) := by rw [hE 78 (by omega), hN.1, en]
      refine sX2_bestExchange_12 ⟨fun x => by omega, fun _ => ?_⟩
      rw [zw_suc (by omega)]
      refine inner (n - (a + 1)) a (a + 1) q N (by omega) (by omega) (by omega) hE (fun N' hN' => ?_)
      rw [zw_suc (by omega)]
      exact ih (a + 1) (z_lp (ex_f S.1 (zX S) a) (n - (a + 1)) (a + 1) q) N' (by omega) hN' hz
  exact outer n 0 _ M (by omega) hM eex
end
