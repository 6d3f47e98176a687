-- needs 9u
/-! put: the first row of that sum -/
section
variable {g : zG} {Y : zM} {Q : zPt} {c l : List Int}
theorem m_findRow (h6 : pt_m Q ≤ 6) (hn : 1 ≤ pt_n Q ∧ pt_n Q ≤ 23) (hcs : ∀ s, pt_c Q s = 4 * f_steps (pt_n Q : Int) (pt_n Q : Int) (s : Int)) : ∀ (k d : Nat) (N : zM) (z : zSt2) (sum : Int) (K : Option zV → zM → Prop), k ≤ pt_m Q → 4 + k ≤ d → pm_ok N Q c l Y → pm_z N Q z → pm_w Q (pt_m Q - k) z → 0 ≤ sum ∧ sum ≤ 100 * ((pt_m Q : Int) - (k : Int)) → N 119 55 < 1000000 → N 119 55 ≤ sum + pt_W Q k z → (sum + pt_W Q k z = N 119 55 → ∀ M, zEpt M N → M 119 = N 119 → pm_z M Q z → (∀ i : Nat, i < pt_m Q - k → M 142 (i : Int) = N 142 (i : Int)) → (∀ i : Nat, i < k → M 142 ((pt_m Q - k + i : Nat) : Int) = (pt_R Q k z).getD i 0) → K (some (.inl 1)) M) → (N 119 55 < sum + pt_W Q k z → ∀ M, zEpt M N → M 119 = N 119 → pm_z M Q z → (∀ i : Nat, i < pt_m Q - k → M 142 (i : Int) = N 142 (i : Int)) → K (some (.inl 0)) M) → zCall g d 235 [.inr (.inr ((0, 12), 119)), .inl ((pt_m Q - k : Nat) : Int), .inl sum] N K := by
  intro k
  induction k with
  | zero =>
    intro d N z sum K hk hd ok hz hw hs hL hle h1 h0
    have o1 := ok.1.1
    refine sX12_findRow ⟨by omega, m_cheapest ok h6 (by omega) (fun v hv hvb => zi ?_)⟩
    have hv : v = su (fun i => N 146 (i : Int)) (pt_m Q - pt_m Q) (pt_m Q) := hv
    rw [Nat.sub_self] at hv
    have hv : v = 0 := hv
    rw [zwi (x := sum + v) (by omega) (by omega)]
    have e0 : pt_W Q 0 z = 0 := rfl
    rw [e0] at h1 h0 hle
    refine ⟨fun q => ⟨fun q2 => by omega, fun _ => h1 (by omega) N (zEpt.refl N) rfl hz (fun _ _ => rfl) (fun i hi => by omega)⟩, fun q => h0 (by omega) N (zEpt.refl N) rfl hz (fun _ _ => rfl)⟩
  | succ k ih =>
    intro d N z sum K hk hd ok hz hw hs hL hle h1 h0
    obtain ⟨kk, ekk⟩ : ∃ kk, pt_m Q - (k + 1) = kk := ⟨_, rfl⟩
    have ek1 : pt_m Q - k = kk + 1 := by omega
    rw [ekk] at hw h1 h0 ⊢
    have low := pt_low (nr := fun i => N 146 (i : Int)) h6 (fun i hi' => ok.2.2.1 i hi') (k + 1) z hk
    rw [ekk] at low
    refine sX12_findRow ⟨by omega, m_cheapest ok h6 (by omega) (fun v hv hvb => zi ?_)⟩
    rw [show pt_m Q - kk = k + 1 from by omega] at hv
    rw [zwi (x := sum + v) (by omega) (by omega)]
    refine ⟨fun q => ⟨fun _ => ?_, fun q2 => by rw [ok.1.1] at q2; omega⟩, fun q => h0 (by omega) N (zEpt.refl N) rfl hz (fun _ _ => rfl)⟩
    have loop : ∀ (f s : Nat) (M : zM), s + f = pt_n Q → zEpt M N → M 119 = N 119 → pm_z M Q z → (∀ i : Nat, i < kk → M 142 (i : Int) = N 142 (i : Int)) → (∀ s' : Nat, s' < s → pt_can Q z kk s' = true → ¬ sum + pt_c Q s' + pt_W Q k (pt_in z kk s') = N 119 55) → zT g d mX12_findRow K 28 [some (.inr (.inr ((0, 12), 119))), some (.inl (kk : Int)), some (.inl sum), some (.inl (s : Int)), none] [] M := by
      intro f
      induction f with
      | zero =>
        intro s M hf hE h119 hzM h142 hno
        have o0 := (ok.e hE).1.2
        refine sX12_findRow_28 ⟨fun _ => h0 ?_ M hE h119 hzM h142, fun q2 => by omega⟩
        rcases pt_W_is (Q := Q) (k := k) (z := z) with qw | ⟨s', a, b, qw⟩
        · omega
        · rw [ekk] at b qw
          have bt : pt_can Q z kk s' = true := by
            cases hb : pt_can Q z kk s'
            · exact absurd hb b
            · rfl
          have := hno s' (by omega) bt
          omega
      | succ f ihf =>
        intro s M hf hE h119 hzM h142 hno
        have okM := ok.e hE
        have o0 := okM.1.2
        have hs' : s < pt_n Q := by omega
        refine sX12_findRow_28 ⟨fun q2 => by omega, fun _ => ⟨by omega, m_canStand (by omega) okM h6 hn.2 hzM hw (by omega) hs' (fun hc => zb1 ?_) (fun hc => zb0 ?_)⟩⟩
        · have ge := pt_W_ge (Q := Q) (k := k) (z := z) hs' (by rw [ekk]; exact hc)
          rw [ekk] at ge
          have cs := hcs s
          refine m_stand1 hzM hn.2 hs' (fun P hP p119 p142 hzP => zn ⟨by omega, ?_⟩)
          have okP := okM.e hP
          have p0 : P 119 0 = (pt_n Q : Int) := okP.1.2
          rw [p0]
          refine m_steps (by omega) (by rw [zU_off 119 (by omega), p0]; omega) (by omega) (by omega) (zi ?_)
          rw [zU_off 119 (by omega), p0]
          have fb : 0 ≤ f_steps (pt_n Q : Int) (pt_n Q : Int) (s : Int) ∧ f_steps (pt_n Q : Int) (pt_n Q : Int) (s : Int) ≤ 24 := by
            unfold f_steps
            omega
          rw [zwi (x := 4 * f_steps (pt_n Q : Int) (pt_n Q : Int) (s : Int)) (by omega) (by omega), ← cs, zwi (x := sum + pt_c Q s) (by omega) (by omega), zw_suc (by omega), ← ek1]
          have okP2 : pm_ok (zU P 142 (kk : Int) (s : Int)) Q c l Y := okP.e ((zEpt.refl P).u (by omega))
          have hzP2 : pm_z (zU P 142 (kk : Int) (s : Int)) Q (pt_in z kk s) := fun x hx => by rw [zU_off 147 (by omega), zU_off 148 (by omega)]; exact hzP x hx
          have eL : zU P 142 (kk : Int) (s : Int) 119 55 = N 119 55 := by rw [zU_off 119 (by omega), p119, h119]
          refine ih (d - 1) _ _ (sum + pt_c Q s) _ (by omega) (by omega) okP2 hzP2 (by rw [ek1]; exact pm_w_in hw) (by omega) (by rw [eL]; exact hL) (by rw [eL]; omega) (fun he T hT t119 hzT t142 tR => zb1 ?_) (fun hlt T hT t119 hzT t142 => zb0 ?_)
          · rw [eL] at he
            refine m_stand0 hzT hw hc hn.2 hs' (fun U hU u119 u142 hzU => zn ?_)
            have hle2 := hle
            have eW : pt_W Q (k + 1) z = pt_c Q s + pt_W Q k (pt_in z kk s) := by omega
            have eR : pt_R Q (k + 1) z = (s : Int) :: pt_R Q k (pt_in z kk s) := by
              obtain ⟨t, g1, g2, g3, g4, g5⟩ := pt_h_is (Q := Q) (k := k) (z := z) (by omega)
              rw [ekk] at g3 g4 g5
              have ts : t = s := by
                rcases Nat.lt_trichotomy t s with q5 | q5 | q5
                · exact absurd (by omega) (hno t q5 g3)
                · exact q5
                · exact absurd (by omega) (g5 s q5 hc)
              show (pt_h Q k z).1 :: pt_R Q k (pt_in z (pt_m Q - (k + 1)) (pt_h Q k z).1.toNat) = _
              rw [g2, ekk, ts, show ((s : Int)).toNat = s from by omega]
            refine h1 (by omega) U (hU.trans (hT.trans (((zEpt.refl P).u (by omega)).trans (hP.trans hE)))) (by rw [u119, t119, zU_off 119 (by omega), p119, h119]) hzU (fun i hi => ?_) (fun i hi => ?_)
            · rw [u142, t142 i (by omega), zU_ne (by omega), p142]
              exact h142 i hi
            · rw [u142, eR]
              rcases Nat.eq_zero_or_pos i with q5 | q5
              · rw [q5, Nat.add_zero, t142 kk (by omega), zU_eq]
                rfl
              · obtain ⟨i', rfl⟩ : ∃ i', i = i' + 1 := ⟨i - 1, by omega⟩
                have := tR i' (by omega)
                rw [show pt_m Q - k + i' = kk + (i' + 1) from by omega] at this
                rw [this]
                rfl
          · rw [eL] at hlt
            refine m_stand0 hzT hw hc hn.2 hs' (fun U hU u119 u142 hzU => zn ?_)
            rw [zw_suc (by omega)]
            refine ihf (s + 1) U (by omega) (hU.trans (hT.trans (((zEpt.refl P).u (by omega)).trans (hP.trans hE)))) (by rw [u119, t119, zU_off 119 (by omega), p119, h119]) hzU (fun i hi => ?_) (fun s' hs'' hc' => ?_)
            · rw [u142, t142 i (by omega), zU_ne (by omega), p142]
              exact h142 i hi
            · by_cases q5 : s' = s
              · rw [q5]
                omega
              · exact hno s' (by omega) hc'
        · rw [zw_suc (by omega)]
          refine ihf (s + 1) M (by omega) hE h119 hzM h142 (fun s' hs'' hc' => ?_)
          by_cases q5 : s' = s
          · rw [q5, hc] at hc'
            cases hc'
          · exact hno s' (by omega) hc'
    exact loop (pt_n Q) 0 N (by omega) (zEpt.refl N) rfl hz (fun _ _ => rfl) (fun s' hs' => by omega)
end
