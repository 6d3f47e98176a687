-- needs 71
/-! crews: the reference -/
section
variable {g : zG} {d : Nat} {K : Option zV → zM → Prop} {μ μ' Y X N : zM} {s m i n k j : Nat} {r : List Int} {S : zS} {co : Int → Int} {cn nn x y z b v e p t f st w rest duty men : Int}
theorem m_findMen (hi : iN Y X) (hn : X 8 0 = (n : Int)) (hr : 0 ≤ rest ∧ rest ≤ 600) (hdu : 1 ≤ duty ∧ duty ≤ 2000) (hmen : 0 ≤ men ∧ men ≤ 8) : ∀ (a : Nat) (d : Nat) (t : Nat) (used : Int) (f : Int → Int) (μ : zM) (K : Option zV → zM → Prop), a + 2 ≤ d → t + a = n → (0 ≤ used ∧ used ≤ 8) → mN μ X → (∀ i : Nat, i < t → μ 157 (i : Int) = f (i : Int)) →
    (∀ r M, cr_go X rest duty men a t used f = some r → (∀ j, ¬ j = 157 → M j = μ j) → (∀ i : Nat, i < n → M 157 (i : Int) = r (i : Int)) → K (some (.inl 1)) M) →
    (∀ M, cr_go X rest duty men a t used f = none → (∀ j, ¬ j = 157 → M j = μ j) → (∀ i : Nat, i < t → M 157 (i : Int) = f (i : Int)) → K (some (.inl 0)) M) → zCall g d 264 [.inr (.inr ((0, 12), 119)), .inl (t : Int), .inl used, .inl men, .inl rest, .inl duty] μ K := by
  have i8 := hi.1
  intro a
  induction a with
  | zero =>
    intro d t used f μ K hd ht hu hN h87 h1 h0
    have n1 := hN.1
    refine sX12_findMen ⟨fun q => by omega, fun q => ?_⟩
    exact h1 f μ rfl (fun _ _ => rfl) (fun i hi => h87 i (by omega))
  | succ a ih =>
    intro d t used f μ K hd ht hu hN h87 h1 h0
    have n1 := hN.1
    refine sX12_findMen ⟨fun q => ?_, fun q => by omega⟩
    obtain ⟨T, hT⟩ : ∃ T : Int → Option (Int → Int), T = (fun m => if (decide (X 6 (t : Int) ≤ duty) && cr_ok X rest duty f t m t) = true then cr_go X rest duty men a (t + 1) (max used (m + 1)) (cr_up f t m) else none) := ⟨_, rfl⟩
    have hgo : cr_go X rest duty men (a + 1) t used f = cr_lp T (min (used + 1) men).toNat 0 := by rw [hT]; rfl
    have hTm : ∀ m, T m = if (decide (X 6 (t : Int) ≤ duty) && cr_ok X rest duty f t m t) = true then cr_go X rest duty men a (t + 1) (max used (m + 1)) (cr_up f t m) else none := by
      intro m
      rw [hT]
    rw [hgo] at h1 h0
    clear hT hgo
    have lp : ∀ (c m : Nat) (M : zM), m + c = (min (used + 1) men).toNat → (∀ j, ¬ j = 157 → M j = μ j) → (∀ i : Nat, i < t → M 157 (i : Int) = f (i : Int)) → (∀ r M, cr_lp T c (m : Int) = some r → (∀ j, ¬ j = 157 → M j = μ j) → (∀ i : Nat, i < n → M 157 (i : Int) = r (i : Int)) → K (some (.inl 1)) M) → (∀ M, cr_lp T c (m : Int) = none → (∀ j, ¬ j = 157 → M j = μ j) → (∀ i : Nat, i < t → M 157 (i : Int) = f (i : Int)) → K (some (.inl 0)) M) → zT g d mX12_findMen K 13 [some (.inr (.inr ((0, 12), 119))), some (.inl (t : Int)), some (.inl used), some (.inl men), some (.inl rest), some (.inl duty), some (.inl (m : Int)), none, none] [] M := by
      intro c
      induction c with
      | zero =>
        intro m M hm hM hM7 k1 k0
        have fin := k0 M rfl hM hM7
        exact sX12_findMen_13 ⟨fun _ => fin, fun _ => ⟨fun _ => fin, fun _ => by omega⟩⟩
      | succ c ihc =>
        intro m M hm hM hM7 k1 k0
        have hNM : mN M X := hN.same (by rw [hM 119 (by omega)]) (fun j _ _ => hM j (by omega))
        have x6 := (hNM.2 (t : Int) (by omega)).2.2.1
        -- whether this man may
        have inner : ∀ (b o : Nat) (bb : Bool), o + b = t → (bb = (decide (X 6 (t : Int) ≤ duty) && cr_ok X rest duty f t (m : Int) o)) → zT g d mX12_findMen K 46 [some (.inr (.inr ((0, 12), 119))), some (.inl (t : Int)), some (.inl used), some (.inl men), some (.inl rest), some (.inl duty), some (.inl (m : Int)), some (.inl (zB bb)), some (.inl (o : Int))] [] M := by
          intro b
          induction b with
          | zero =>
            intro o bb ho hb
            obtain rfl : o = t := by omega
            refine sX12_findMen_46 ⟨fun _ => ⟨by omega, fun q3 => ?_, fun q3 => ⟨by omega, ?_⟩⟩, fun q => by omega⟩
            · have hf : bb = false := by cases bb; rfl; cases q3
              have tn : T (m : Int) = none := by rw [hTm, if_neg (by rw [← hb, hf]; simp)]
              rw [cr_lp_n tn] at k1 k0
              rw [zw_suc (by omega)]
              refine ihc (m + 1) _ (by omega) (fun j hj => by rw [zU_off j hj]; exact hM j hj) (fun i hi2 => by rw [zU_ne (by omega)]; exact hM7 i hi2) k1 k0
            · have hf : bb = true := by cases bb; exact absurd rfl q3; rfl
              have tm : T (m : Int) = cr_go X rest duty men a (o + 1) (max used ((m : Int) + 1)) (cr_up f o (m : Int)) := by rw [hTm, if_pos (by rw [← hb, hf])]
              rw [zw_suc (i := o) (by omega), zw_suc (i := m) (by omega)]
              obtain ⟨f', hf'⟩ : ∃ f', cr_up f o (m : Int) = f' := ⟨_, rfl⟩
              refine ih (d - 1) (o + 1) (max used ((m + 1 : Nat) : Int)) f' _ _ (by omega) (by omega) (by omega) (hNM.same (by rw [zU_off 119 (by omega)]) (fun j _ _ => zU_off j (by omega))) (fun i hi2 => ?_) (fun r N hg hN1 hN3 => zb1 ?_) (fun N hg hN1 hN3 => zb0 ?_)
              · rw [← hf']
                unfold cr_up
                by_cases q6 : i = o
                · subst q6; rw [zU_eq, if_pos rfl]
                · rw [zU_ne (by omega), if_neg (by omega)]
                  exact hM7 i (by omega)
              · rw [← hf', show ((m + 1 : Nat) : Int) = (m : Int) + 1 from by omega, ← tm] at hg
                exact k1 r N (cr_lp_s hg) (fun j hj => by rw [hN1 j hj, zU_off j hj]; exact hM j hj) hN3
              · rw [← hf', show ((m + 1 : Nat) : Int) = (m : Int) + 1 from by omega, ← tm] at hg
                rw [cr_lp_n hg] at k1 k0
                refine ihc (m + 1) N (by omega) (fun j hj => by rw [hN1 j hj, zU_off j hj]; exact hM j hj) (fun i hi2 => ?_) k1 k0
                rw [hN3 i (by omega), ← hf']
                unfold cr_up
                rw [if_neg (by omega)]
          | succ b ihb =>
            intro o bb ho hb
            refine sX12_findMen_46 ⟨fun q => by omega, fun q => ⟨fun q3 => ?_, fun q3 => ⟨by omega, ?_⟩⟩⟩
            · have hf : bb = false := by cases bb; rfl; cases q3
              rw [zw_suc (by omega)]
              refine ihb (o + 1) false (by omega) ?_
              simp only [cr_ok]
              rw [← Bool.and_assoc, ← hb, hf]; rfl
            · have hf : bb = true := by cases bb; exact absurd rfl q3; rfl
              rw [hM7 o (by omega)]
              refine ⟨fun q4 => ?_, fun q4 => ⟨by omega, m_areOnes (Y := Y) hNM hi (by omega) (by omega) (by omega) hr hdu (fun q5 => zb1 ?_) (fun q5 => zb0 ?_)⟩⟩
              · rw [zw_suc (by omega)]
                refine ihb (o + 1) true (by omega) ?_
                simp only [cr_ok]
                rw [← Bool.and_assoc, ← hb, hf]; simp [q4]
              · rw [zw_suc (by omega)]
                refine ihb (o + 1) true (by omega) ?_
                simp only [cr_ok]
                rw [← Bool.and_assoc, ← hb, hf]; simp [q5]
              · rw [zw_suc (by omega)]
                refine ihb (o + 1) false (by omega) ?_
                simp only [cr_ok]
                rw [← Bool.and_assoc, ← hb, hf]; simp [q4, q5]
        refine sX12_findMen_13 ⟨fun _ => by omega, fun _ => ⟨fun _ => by omega, fun _ => ⟨by omega, ?_⟩⟩⟩
        rw [x6]
        refine ⟨fun q5 => ?_, fun q5 => ?_⟩
        · refine inner t 0 false (by omega) ?_
          rw [decide_eq_false (by omega)]; rfl
        · refine inner t 0 true (by omega) ?_
          rw [decide_eq_true q5]; rfl
    exact lp (min (used + 1) men).toNat 0 μ (by omega) (fun _ _ => rfl) h87 h1 h0
theorem M_crews (hd : 15 ≤ d) (hC : mS μ S) (hI : iS nn S) (h : ∀ μ', zEd μ' μ → mS μ' (o_crews S rest duty).2 → K (some (.inl (o_crews S rest duty).1)) μ') : zCall g d 265 [.inr (.inr ((0, 12), 119)), .inl rest, .inl duty] μ K := by
  have hi : iN S.1 (zX S) := hI.2.2.2.2.2.2.1
  have i8 := hi.1
  have hC0 : mS (zU μ 119 33 0) S := hC.thr
  have hE : zEd (zU μ 119 33 0) μ := (zEd.refl μ).u (by omega)
  unfold o_crews at h
  refine sX12_crews ⟨by omega, ?_⟩
  generalize zU μ 119 33 0 = N0 at *
  have no : ¬ ((0 ≤ rest ∧ rest ≤ 600) ∧ 1 ≤ duty ∧ duty ≤ 2000) → K (some (.inl (-1))) N0 := by
    intro q
    rw [if_neg q] at h
    exact h N0 hE hC0
  refine m_in (fun q1 => zb1 (m_in (fun q2 => zb1 ?_) (fun q2 => zb0 (no (by omega))))) (fun q1 => zb0 (no (by omega)))
  rw [if_pos (by omega)] at h
  obtain ⟨n, hn⟩ : ∃ n : Nat, zX S 8 0 = (n : Int) := ⟨(zX S 8 0).toNat, by omega⟩
  have hn2 : (zX S 8 0).toNat = n := by omega
  rw [hn2] at h
  have hcs : ∀ M : zM, (∀ j, ¬ j = 157 → M j = N0 j) → mS M S := fun M hM => hC0.scr (fun j hj _ => hM j (by unfold z_scm at hj; omega)) (fun i _ => by rw [hM 119 (by omega)])
  have lp : ∀ (a m : Nat) (M : zM), m + a = n + 1 → (∀ j, ¬ j = 157 → M j = N0 j) → cr_m (zX S) rest duty n (n + 1) 0 = cr_m (zX S) rest duty n a m → zT g d mX12_crews K 31 [some (.inr (.inr ((0, 12), 119))), some (.inl rest), some (.inl duty), some (.inl (m : Int)), none] [] M := by
    intro a
    induction a with
    | zero =>
      intro m M hm hM hcm
      have hCM := hcs M hM
      have n1 : M 119 18 = zX S 8 0 := hCM.2.2.2.2.2.1.1
      rw [hcm] at h
      simp only [cr_m] at h
      exact sX12_crews_31 ⟨fun _ => h M (fun j hj => by rw [hM j (by omega), hE j hj]) hCM, fun q => by omega⟩
    | succ a ih =>
      intro m M hm hM hcm
      have hCM := hcs M hM
      have hNM : mN M (zX S) := hCM.2.2.2.2.2.1
      have n1 := hNM.1
      refine sX12_crews_31 ⟨fun q => by omega, fun q => ⟨by omega, ?_⟩⟩
      refine m_findMen (Y := S.1) (rest := rest) (duty := duty) hi hn (by omega) (by omega) (by omega) n (d - 1) 0 0 (fun _ => 0) M _ (by omega) (by omega) (by omega) hNM (fun i hi2 => by omega) (fun r N hg hN1 hN3 => zb1 ?_) (fun N hg hN1 _ => zb0 ?_)
      · have hcm2 : cr_m (zX S) rest duty n (a + 1) m = some (m, r) := by simp only [cr_m, hg]
        rw [hcm, hcm2] at h
        simp only [] at h
        have hN' : ∀ j, ¬ j = 157 → N j = N0 j := fun j hj => by rw [hN1 j hj, hM j hj]
        have hCN := hcs N hN'
        have n2 : N 119 18 = zX S 8 0 := hCN.2.2.2.2.2.1.1
        have l2 : ∀ (b j : Nat) (P : zM), j + b = n → zE32 P N → mR P ((List.range j).map (fun t : Nat => r (t : Int))) → zT g d mX12_crews K 62 [some (.inr (.inr ((0, 12), 119))), none, none, some (.inl (m : Int)), some (.inl (j : Int))] [] P := by
          intro b
          induction b with
          | zero =>
            intro j P hj hP hr
            obtain rfl : j = n := by omega
            have m1 : P 119 18 = N 119 18 := hP.2 18 (by omega)
            refine sX12_crews_62 ⟨fun _ => h P (fun j hj => by rw [hP.1 j (by omega), hN' j (by omega), hE j hj]) (hCN.row (fun j _ hj => hP.1 j hj) (fun i _ hi => hP.2 i hi) ?_), fun q2 => by omega⟩
            unfold fr_row
            rw [hn2]; exact hr
          | succ b ihb =>
            intro j P hj hP hr
            have m1 : P 119 18 = N 119 18 := hP.2 18 (by omega)
            refine sX12_crews_62 ⟨fun q2 => by omega, fun q2 => ⟨by omega, by omega, ?_⟩⟩
            rw [hP.1 157 (by omega), hN3 j (by omega)]
            refine m_tellR hr (by simp; omega) (fun Q hQ hr2 => zn ?_)
            rw [zw_suc (by omega)]
            refine ihb (j + 1) Q (by omega) (hQ.trans hP) ?_
            rw [l_row_s]; exact hr2
        exact l2 n 0 (zU N 119 32 0) (by omega) zE32_0 mR_0
      · have hcm2 : cr_m (zX S) rest duty n (a + 1) m = cr_m (zX S) rest duty n a (m + 1) := by simp only [cr_m, hg]
        rw [zw_suc (by omega)]
        exact ih (m + 1) N (by omega) (fun j hj => by rw [hN1 j hj, hM j hj]) (by rw [hcm, hcm2])
  exact lp (n + 1) 0 N0 (by omega) (fun _ _ => rfl) rfl
end
