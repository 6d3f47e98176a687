-- needs 68
/-! operations: fires, men -/
theorem l_row_s (b : Int → Int) (j : Nat) : (List.range (j + 1)).map (fun t : Nat => b (t : Int)) = (List.range j).map (fun t : Nat => b (t : Int)) ++ [b (j : Int)] := by
  rw [List.range_succ, List.map_append]
  rfl
/-- the first number from k on, of j, for which it goes -/
def f_men (ans : Nat → Int) (now : Int) : Nat → Nat → Int
  | 0, _ => -2
  | j + 1, k => if ans k = -5000 ∨ now ≤ ans k then (k : Int) else f_men ans now j (k + 1)
section
variable {g : zG} {d : Nat} {K : Option zV → zM → Prop} {μ μ' Y X N : zM} {s m i n k j : Nat} {r : List Int} {S : zS} {co : Int → Int} {cn nn x y z b v e p t f st w : Int} {q : zFr}
def o_fires (S : zS) (w k : Int) : Int × zS := if (1 ≤ w ∧ w ≤ 120) ∧ 1 ≤ k ∧ k ≤ 6 then (if fr_ans S.1 (zX S) k.toNat w = -5000 then (-5000, S) else (fr_ans S.1 (zX S) k.toNat w, sR S (fr_row (zX S) (fr_res S.1 (zX S) k.toNat w).2.2.1))) else (-5001, S)
theorem c_tellFires {b : Int → Int} (hd : 1 ≤ d) (hn : μ 78 3 = (n : Int) ∧ n ≤ 8) (hb : ∀ t, 0 ≤ t ∧ t < (n : Int) → μ 90 t = b t) (h : ∀ μ', zE18 μ' μ → cR μ' ((List.range n).map (fun t : Nat => b (t : Int))) → K none μ') : zCall g d 80 [.inr (.inr ((0, 8), 78))] μ K := by
  refine sX8_tellFires ⟨by omega, c_emptyR (fun M0 hM0 hr0 => zn ?_)⟩
  have lp : ∀ (a j : Nat) (M : zM), j + a = n → zE18 M μ → cR M ((List.range j).map (fun t : Nat => b (t : Int))) → zT g d mX8_tellFires K 9 [some (.inr (.inr ((0, 8), 78))), some (.inl (j : Int))] [] M := by
    intro a
    induction a with
    | zero =>
      intro j M hj hM hr
      obtain rfl : j = n := by omega
      have m1 : M 78 3 = μ 78 3 := by rw [hM 78 (by omega)]
      exact sX8_tellFires_9 ⟨fun _ => h M hM hr, fun q => by omega⟩
    | succ a ih =>
      intro j M hj hM hr
      have m1 : M 78 3 = μ 78 3 := by rw [hM 78 (by omega)]
      refine sX8_tellFires_9 ⟨fun q => by omega, fun q => ⟨by omega, by omega, ?_⟩⟩
      rw [hM 90 (by omega), hb _ (by omega)]
      refine c_tellR hr (by simp; omega) (fun N hN hr2 => zn ?_)
      rw [zw_suc (by omega)]
      refine ih (j + 1) N (by omega) (hN.trans hM) ?_
      rw [l_row_s]; exact hr2
  exact lp n 0 M0 (by omega) hM0 hr0
theorem C_fires {k : Int} (hd : 5 ≤ d) (hC : cS μ S) (hI : iS nn S) (h : ∀ μ', zEc μ' μ → cS μ' (o_fires S w k).2 → K (some (.inl (o_fires S w k).1)) μ') : zCall g d 150 [.inr (.inr ((0, 11), 0)), .inl w, .inl k] μ K := by
  have hi : iN S.1 (zX S) := hI.2.2.2.2.2.2.1
  have i8 := hi.1
  unfold o_fires at h
  have no : ¬ ((1 ≤ w ∧ w ≤ 120) ∧ 1 ≤ k ∧ k ≤ 6) → K (some (.inl (-5001))) μ := by
    intro q
    rw [if_neg q] at h
    exact h μ (zEc.refl μ) hC
  refine sX11_fires ⟨fun _ => no (by omega), fun _ => ⟨fun _ => no (by omega), fun _ => ⟨fun _ => no (by omega), fun _ => ⟨fun _ => ⟨by omega, ?_⟩, fun _ => no (by omega)⟩⟩⟩⟩
  rw [if_pos (by omega)] at h
  obtain ⟨kk, rfl⟩ : ∃ kk : Nat, k = (kk : Int) := ⟨k.toNat, by omega⟩
  rw [show ((kk : Int)).toNat = kk from by omega] at h
  refine c_beginFires (k := kk) (w := w) (by omega) hC hI (by omega) (by omega) (fun M hM hb => zi ?_)
  have hCM : cS M S := hC.scr (fun j hj => hM j (by unfold z_scr at hj; omega))
  have hEM : zEc M μ := fun j hj => hM j (by omega)
  have hNM : cN M (zX S) := hCM.2.2.2.2.2.1
  have n1 := hNM.1
  refine ⟨fun q => ?_, fun q => ?_⟩
  · rw [if_pos q] at h
    rw [q]
    exact h M hEM hCM
  · rw [if_neg q] at h
    refine c_tellFires (n := (zX S 8 0).toNat) (b := (fr_res S.1 (zX S) kk w).2.2.1) (by omega) ⟨by omega, by omega⟩ (fun t ht => hb t (by omega)) (fun N hN hr => zn ?_)
    exact h N (fun j hj => by rw [hN j (by omega), hM j (by omega)]) (hCM.row (fun j _ hj => hN j hj) hr)
theorem M_fires {k : Int} (hd : 5 ≤ d) (hC : mS μ S) (hI : iS nn S) (h : ∀ μ', zEd μ' μ → mS μ' (o_fires S w k).2 → K (some (.inl (o_fires S w k).1)) μ') : zCall g d 268 [.inr (.inr ((0, 12), 119)), .inl w, .inl k] μ K := by
  have hi : iN S.1 (zX S) := hI.2.2.2.2.2.2.1
  have i8 := hi.1
  have hC0 : mS (zU μ 119 33 0) S := hC.thr
  have hE : zEd (zU μ 119 33 0) μ := (zEd.refl μ).u (by omega)
  unfold o_fires at h
  refine sX12_fires ⟨by omega, ?_⟩
  generalize zU μ 119 33 0 = N0 at *
  have no : ¬ ((1 ≤ w ∧ w ≤ 120) ∧ 1 ≤ k ∧ k ≤ 6) → K (some (.inl (-5001))) N0 := by
    intro q
    rw [if_neg q] at h
    exact h N0 hE hC0
  refine m_in (fun q1 => zb1 (m_in (fun q2 => zb1 ?_) (fun q2 => zb0 (no (by omega))))) (fun q1 => zb0 (no (by omega)))
  rw [if_pos (by omega)] at h
  obtain ⟨kk, rfl⟩ : ∃ kk : Nat, k = (kk : Int) := ⟨k.toNat, by omega⟩
  rw [show ((kk : Int)).toNat = kk from by omega] at h
  refine m_lightFires (k := kk) (w := w) (by omega) hC0 hI (by omega) (by omega) (fun M hM hb => zi ?_)
  have hCM : mS M S := hC0.scr (fun j hj _ => hM j (by unfold z_scm at hj; omega)) (fun i _ => by rw [hM 119 (by omega)])
  have hEM : zEd M N0 := fun j hj => hM j (by omega)
  have hNM : mN M (zX S) := hCM.2.2.2.2.2.1
  have n1 := hNM.1
  refine ⟨fun q => ?_, fun q => ?_⟩
  · rw [if_neg q] at h
    have lp : ∀ (a j : Nat) (N : zM), (j : Int) + a = zX S 8 0 → zE32 N M → mR N ((List.range j).map (fun t : Nat => (fr_res S.1 (zX S) kk w).2.2.1 (t : Int))) → zT g d mX12_fires K 53 [some (.inr (.inr ((0, 12), 119))), none, none, some (.inl (fr_ans S.1 (zX S) kk w)), some (.inl (j : Int))] [] N := by
      intro a
      induction a with
      | zero =>
        intro j N hj hN hr
        have m1 : N 119 18 = M 119 18 := hN.2 18 (by omega)
        refine sX12_fires_53 ⟨fun _ => h N (fun j hj => by rw [hN.1 j (by omega), hEM j hj, hE j hj]) (hCM.row (fun j _ hj => hN.1 j hj) (fun i _ hi => hN.2 i hi) ?_), fun q2 => by omega⟩
        unfold fr_row
        rw [show (zX S 8 0).toNat = j from by omega]
        exact hr
      | succ a ih =>
        intro j N hj hN hr
        have m1 : N 119 18 = M 119 18 := hN.2 18 (by omega)
        refine sX12_fires_53 ⟨fun q2 => by omega, fun q2 => ⟨by omega, by omega, ?_⟩⟩
        rw [hN.1 158 (by omega), hb _ (by omega)]
        refine m_tellR hr (by simp; omega) (fun P hP hr2 => zn ?_)
        rw [zw_suc (by omega)]
        refine ih (j + 1) P (by omega) (hP.trans hN) ?_
        rw [l_row_s]; exact hr2
    exact lp (zX S 8 0).toNat 0 (zU M 119 32 0) (by omega) zE32_0 mR_0
  · rw [if_pos q] at h
    rw [q]
    exact h M (hEM.trans hE) hCM
def o_men (S : zS) (w : Int) : Int × zS := (if 1 ≤ w ∧ w ≤ 120 then f_men (fun k => fr_ans S.1 (zX S) k w) (S.1 5 1) 6 1 else -1, S)
theorem C_men (hd : 5 ≤ d) (hC : cS μ S) (hI : iS nn S) (h : ∀ μ', zEc μ' μ → cS μ' (o_men S w).2 → K (some (.inl (o_men S w).1)) μ') : zCall g d 151 [.inr (.inr ((0, 11), 0)), .inl w] μ K := by
  unfold o_men at h
  have no : ¬ (1 ≤ w ∧ w ≤ 120) → K (some (.inl (-1))) μ := by
    intro q
    have := h μ (zEc.refl μ) hC
    rw [if_neg q] at this
    exact this
  refine sX11_men ⟨fun _ => no (by omega), fun _ => ⟨fun _ => ⟨by omega, sX8_fewestMen ?_⟩, fun _ => no (by omega)⟩⟩
  rw [if_pos (by omega)] at h
  have lp : ∀ (a k : Nat) (M : zM), k + a = 7 → 1 ≤ k → (∀ j, ¬ (j = 90 ∨ j = 91) → M j = μ j) → (∀ μ', zEc μ' μ → cS μ' S → K (some (.inl (f_men (fun k => fr_ans S.1 (zX S) k w) (S.1 5 1) a k))) μ') → zT g (d - 1) mX8_fewestMen (zIi fun r2 μ1 => K (some (.inl r2)) μ1) 2 [some (.inr (.inr ((0, 8), 78))), some (.inl w), some (.inl (k : Int)), none] [] M := by
    intro a
    induction a with
    | zero =>
      intro k M hk h1 hM hK
      have hCM : cS M S := hC.scr (fun j hj => hM j (by unfold z_scr at hj; omega))
      exact sX8_fewestMen_2 ⟨fun _ => zi (hK M (fun j hj => hM j (by omega)) hCM), fun q => by omega⟩
    | succ a ih =>
      intro k M hk h1 hM hK
      have hCM : cS M S := hC.scr (fun j hj => hM j (by unfold z_scr at hj; omega))
      refine sX8_fewestMen_2 ⟨fun q => by omega, fun q => ⟨by omega, c_beginFires (k := k) (w := w) (by omega) hCM hI (by omega) (by omega) (fun N hN hb => zi ?_)⟩⟩
      have hN' : ∀ j, ¬ (j = 90 ∨ j = 91) → N j = μ j := fun j hj => by rw [hN j hj, hM j hj]
      have hCN : cS N S := hC.scr (fun j hj => hN' j (by unfold z_scr at hj; omega))
      have hEN : zEc N μ := fun j hj => hN' j (by omega)
      simp only [f_men] at hK
      rw [hCN.env.2.2.2.2.2]
      refine ⟨fun q2 => ?_, fun q2 => ⟨fun q3 => ?_, fun q3 => ?_⟩⟩
      · rw [if_pos (Or.inl q2)] at hK
        exact zi (hK N hEN hCN)
      · rw [if_neg (by omega)] at hK
        rw [zw_suc (by omega)]
        exact ih (k + 1) N (by omega) (by omega) hN' hK
      · rw [if_pos (Or.inr q3)] at hK
        exact zi (hK N hEN hCN)
  exact lp 6 1 μ (by omega) (by omega) (fun _ _ => rfl) h
theorem M_men (hd : 5 ≤ d) (hC : mS μ S) (hI : iS nn S) (h : ∀ μ', zEd μ' μ → mS μ' (o_men S w).2 → K (some (.inl (o_men S w).1)) μ') : zCall g d 269 [.inr (.inr ((0, 12), 119)), .inl w] μ K := by
  have hC0 : mS (zU μ 119 33 0) S := hC.thr
  have hE : zEd (zU μ 119 33 0) μ := (zEd.refl μ).u (by omega)
  unfold o_men at h
  refine sX12_men ⟨by omega, ?_⟩
  generalize zU μ 119 33 0 = N0 at *
  have no : ¬ (1 ≤ w ∧ w ≤ 120) → K (some (.inl (-1))) N0 := by
    intro q
    have := h N0 hE hC0
    rw [if_neg q] at this
    exact this
  refine m_in (fun q1 => zb1 ?_) (fun q1 => zb0 (no (by omega)))
  rw [if_pos (by omega)] at h
  have lp : ∀ (a k : Nat) (M : zM), k + a = 7 → 1 ≤ k → (∀ j, ¬ (j = 158 ∨ j = 159) → M j = N0 j) → (∀ μ', zEd μ' μ → mS μ' S → K (some (.inl (f_men (fun k => fr_ans S.1 (zX S) k w) (S.1 5 1) a k))) μ') → zT g d mX12_men K 19 [some (.inr (.inr ((0, 12), 119))), some (.inl w), some (.inl (k : Int)), none] [] M := by
    intro a
    induction a with
    | zero =>
      intro k M hk h1 hM hK
      have hCM : mS M S := hC0.scr (fun j hj _ => hM j (by unfold z_scm at hj; omega)) (fun i _ => by rw [hM 119 (by omega)])
      exact sX12_men_19 ⟨fun _ => hK M (fun j hj => by rw [hM j (by omega), hE j hj]) hCM, fun q => by omega⟩
    | succ a ih =>
      intro k M hk h1 hM hK
      have hCM : mS M S := hC0.scr (fun j hj _ => hM j (by unfold z_scm at hj; omega)) (fun i _ => by rw [hM 119 (by omega)])
      refine sX12_men_19 ⟨fun q => by omega, fun q => ⟨by omega, m_lightFires (k := k) (w := w) (by omega) hCM hI (by omega) (by omega) (fun N hN hb => zi ?_)⟩⟩
      have hN' : ∀ j, ¬ (j = 158 ∨ j = 159) → N j = N0 j := fun j hj => by rw [hN j hj, hM j hj]
      have hCN : mS N S := hC0.scr (fun j hj _ => hN' j (by unfold z_scm at hj; omega)) (fun i _ => by rw [hN' 119 (by omega)])
      have hEN : zEd N μ := fun j hj => by rw [hN' j (by omega), hE j hj]
      simp only [f_men] at hK
      rw [hCN.env.2.2.2.2.2]
      refine ⟨fun q2 => ?_, fun q2 => ⟨fun q3 => ?_, fun q3 => ?_⟩⟩
      · rw [if_pos (Or.inl q2)] at hK
        exact hK N hEN hCN
      · rw [if_neg (by omega)] at hK
        rw [zw_suc (by omega)]
        exact ih (k + 1) N (by omega) (by omega) hN' hK
      · rw [if_pos (Or.inr q3)] at hK
        exact hK N hEN hCN
  exact lp 6 1 N0 (by omega) (by omega) (fun _ _ => rfl) h
end
