-- needs 9t
/-! put: the least sum of the reference -/
theorem pt_low {Q : zPt} {nr : Nat → Int} (h6 : pt_m Q ≤ 6) (hb : ∀ k, k < pt_m Q → (0 ≤ nr k ∧ nr k ≤ 100) ∧ ∀ s, s < pt_n Q → (pt_B Q k s = true ∨ pt_F Q k s = true) → nr k ≤ pt_c Q s) : ∀ (k : Nat) (z : zSt2), k ≤ pt_m Q → su nr k (pt_m Q - k) ≤ pt_W Q k z
  | 0, _, _ => Int.le_refl _
  | k + 1, z, hk => by
    show nr (pt_m Q - (k + 1)) + su nr k (pt_m Q - (k + 1) + 1) ≤ pt_W Q (k + 1) z
    rw [show pt_m Q - (k + 1) + 1 = pt_m Q - k from by omega]
    have b := hb (pt_m Q - (k + 1)) (by omega)
    have sb := su_b (F := nr) (a := 0) (b := 100) k (pt_m Q - k) (fun t _ ht => (hb t (by omega)).1)
    rcases pt_W_is (Q := Q) (k := k) (z := z) with q | ⟨s, a, c, q⟩
    · rw [q]
      omega
    · have ih := pt_low h6 hb k (pt_in z (pt_m Q - (k + 1)) s) (by omega)
      have : nr (pt_m Q - (k + 1)) ≤ pt_c Q s := by
        refine b.2 s a ?_
        unfold pt_can at c
        by_cases q1 : z.1 s = -1
        · rw [if_pos q1] at c
          cases hB : pt_B Q (pt_m Q - (k + 1)) s
          · exact absurd hB c
          · exact Or.inl rfl
        · rw [if_neg q1] at c
          by_cases q2 : z.2 s = -1
          · rw [if_pos q2] at c
            cases hF : pt_F Q (pt_m Q - (k + 1)) s
            · rw [hF, Bool.false_and] at c
              exact absurd rfl c
            · exact Or.inr rfl
          · rw [if_neg q2] at c
            exact absurd rfl c
      omega
section
variable {g : zG} {Y : zM} {Q : zPt} {c l : List Int}
theorem m_findSum (h6 : pt_m Q ≤ 6) (hn : 1 ≤ pt_n Q ∧ pt_n Q ≤ 23) (hcs : ∀ s, pt_c Q s = 4 * f_steps (pt_n Q : Int) (pt_n Q : Int) (s : Int)) : ∀ (k d : Nat) (N : zM) (z : zSt2) (sum : Int) (K : Option zV → zM → Prop), k ≤ pt_m Q → 4 + k ≤ d → pm_ok N Q c l Y → pm_z N Q z → pm_w Q (pt_m Q - k) z → 0 ≤ sum ∧ sum ≤ 100 * ((pt_m Q : Int) - (k : Int)) → N 119 55 ≤ 1000000 → (∀ M, zEpt M N → M 142 = N 142 → pm_z M Q z → M 119 55 = min (N 119 55) (sum + pt_W Q k z) → K none M) → zCall g d 234 [.inr (.inr ((0, 12), 119)), .inl ((pt_m Q - k : Nat) : Int), .inl sum] N K := by
  intro k
  induction k with
  | zero =>
    intro d N z sum K hk hd ok hz hw hs hL h
    have o1 := ok.1.1
    refine sX12_findSum ⟨by omega, m_cheapest ok h6 (by omega) (fun v hv hvb => zi ?_)⟩
    have hv : v = su (fun i => N 146 (i : Int)) (pt_m Q - pt_m Q) (pt_m Q) := hv
    rw [Nat.sub_self] at hv
    have hv : v = 0 := hv
    rw [zwi (x := sum + v) (by omega) (by omega)]
    have e0 : pt_W Q 0 z = 0 := rfl
    rw [e0] at h
    refine ⟨fun q => ⟨fun q2 => by omega, fun _ => ?_⟩, fun q => h N (zEpt.refl N) rfl hz (by omega)⟩
    refine h _ ⟨fun j hj => zU_off j (by omega), fun i hi => zU_ne (by omega)⟩ (zU_off 142 (by omega)) (fun x hx => by rw [zU_off 147 (by omega), zU_off 148 (by omega)]; exact hz x hx) ?_
    rw [zU_eq]
    omega
  | succ k ih =>
    intro d N z sum K hk hd ok hz hw hs hL h
    obtain ⟨kk, ekk⟩ : ∃ kk, pt_m Q - (k + 1) = kk := ⟨_, rfl⟩
    have ek1 : pt_m Q - k = kk + 1 := by omega
    rw [ekk] at hw ⊢
    have low := pt_low (nr := fun i => N 146 (i : Int)) h6 (fun i hi' => ok.2.2.1 i hi') (k + 1) z hk
    rw [ekk] at low
    have W1 := pt_W_le (Q := Q) (k := k) (z := z)
    refine sX12_findSum ⟨by omega, m_cheapest ok h6 (by omega) (fun v hv hvb => zi ?_)⟩
    rw [show pt_m Q - kk = k + 1 from by omega] at hv
    rw [zwi (x := sum + v) (by omega) (by omega)]
    refine ⟨fun q => ⟨fun _ => ?_, fun q2 => by rw [ok.1.1] at q2; omega⟩, fun q => h N (zEpt.refl N) rfl hz (by omega)⟩
    obtain ⟨L0, eL0⟩ : ∃ L0, N 119 55 = L0 := ⟨_, rfl⟩
    rw [eL0] at h hL
    -- one stall
    have one : ∀ (s dd side : Nat) (M : zM), s < pt_n Q → 1 ≤ dd → dd ≤ 12 → pt_c Q s = 4 * (dd : Int) → side < 2 → zEpt M N → M 142 = N 142 → pm_z M Q z → M 119 55 ≤ 1000000 → (∀ M', zEpt M' N → M' 142 = N 142 → pm_z M' Q z → M' 119 55 = (if pt_can Q z kk s = true then min (M 119 55) (sum + pt_c Q s + pt_W Q k (pt_in z kk s)) else M 119 55) → zT g d mX12_findSum K 46 [some (.inr (.inr ((0, 12), 119))), some (.inl (kk : Int)), some (.inl sum), some (.inl (dd : Int)), some (.inl ((side : Int) + 1)), none] [] M') → zT g d mX12_findSum K 85 [some (.inr (.inr ((0, 12), 119))), some (.inl (kk : Int)), some (.inl sum), some (.inl (dd : Int)), some (.inl (side : Int)), some (.inl (s : Int))] [] M := by
      intro s dd side M hs' hdd hdd2 hcs' hside hE h142 hzM hLM hfin
      have okM := ok.e hE
      refine sX12_findSum_85 ⟨by omega, m_canStand (by omega) okM h6 hn.2 hzM hw (by omega) hs' (fun hc => zb1 ?_) (fun hc => zb0 ?_)⟩
      · rw [if_pos hc] at hfin
        refine m_stand1 hzM hn.2 hs' (fun P hP p119 p142 hzP => zn ?_)
        rw [zw_suc (by omega), ← ek1, zwi (x := 4 * (dd : Int)) (by omega) (by omega), zwi (x := sum + 4 * (dd : Int)) (by omega) (by omega)]
        refine ih (d - 1) P _ (sum + 4 * (dd : Int)) _ (by omega) (by omega) (okM.e hP) hzP (by rw [ek1]; exact pm_w_in hw) (by omega) (by rw [p119]; exact hLM) (fun T hT t142 hzT tL => zn ?_)
        refine m_stand0 hzT hw hc hn.2 hs' (fun U hU u119 u142 hzU => zn ?_)
        rw [zwi (x := (side : Int) + 1) (by omega) (by omega)]
        refine hfin U (hU.trans (hT.trans (hP.trans hE))) (by rw [u142, t142, p142, h142]) hzU ?_
        rw [u119, tL, p119, hcs']
      · rw [if_neg (by rw [hc]; simp)] at hfin
        rw [zwi (x := (side : Int) + 1) (by omega) (by omega)]
        exact hfin M hE h142 hzM rfl
    -- all stalls, near ones first
    have over : ∀ (dd : Nat) (M : zM), dd ≤ 13 → pt_n Q + 1 < 2 * dd → zEpt M N → M 142 = N 142 → pm_z M Q z → M 119 55 ≤ L0 → min L0 (sum + pt_W Q (k + 1) z) ≤ M 119 55 → (∀ s : Nat, s < pt_n Q → (s + 1 < dd ∨ pt_n Q < s + dd) → pt_can Q z kk s = true → M 119 55 ≤ sum + pt_c Q s + pt_W Q k (pt_in z kk s)) → zT g d mX12_findSum K 31 [some (.inr (.inr ((0, 12), 119))), some (.inl (kk : Int)), some (.inl sum), some (.inl (dd : Int)), none, none] [] M := by
      intro dd M hdd hlt hE h142 hzM hL1 hL2 hall
      have o0 := (ok.e hE).1.2
      refine sX12_findSum_31 ⟨fun _ => h M hE h142 hzM ?_, fun q => ?_⟩
      · rcases pt_W_is (Q := Q) (k := k) (z := z) with q | ⟨s, a, b, q⟩
        · omega
        · rw [ekk] at b q
          have bt : pt_can Q z kk s = true := by
            cases hb : pt_can Q z kk s
            · exact absurd hb b
            · rfl
          have := hall s a (by omega) bt
          omega
      · rw [o0, zwi (x := (pt_n Q : Int) + 1) (by omega) (by omega), zwi (x := 2 * (dd : Int)) (by omega) (by omega)] at q
        omega
    have loop : ∀ (f dd : Nat) (M : zM), dd + f = 13 → 1 ≤ dd → zEpt M N → M 142 = N 142 → pm_z M Q z → M 119 55 ≤ L0 → min L0 (sum + pt_W Q (k + 1) z) ≤ M 119 55 → (∀ s : Nat, s < pt_n Q → (s + 1 < dd ∨ pt_n Q < s + dd) → pt_can Q z kk s = true → M 119 55 ≤ sum + pt_c Q s + pt_W Q k (pt_in z kk s)) → zT g d mX12_findSum K 31 [some (.inr (.inr ((0, 12), 119))), some (.inl (kk : Int)), some (.inl sum), some (.inl (dd : Int)), none, none] [] M := by
      intro f
      induction f with
      | zero =>
        intro dd M hf hdd hE h142 hzM hL1 hL2 hall
        exact over dd M (by omega) (by omega) hE h142 hzM hL1 hL2 hall
      | succ f ihf =>
        intro dd M hf hdd hE h142 hzM hL1 hL2 hall
        rcases Nat.lt_or_ge (pt_n Q + 1) (2 * dd) with qe | qe
        · exact over dd M (by omega) qe hE h142 hzM hL1 hL2 hall
        have o0 := (ok.e hE).1.2
        have ge : ∀ s : Nat, s < pt_n Q → pt_can Q z kk s = true → pt_W Q (k + 1) z ≤ pt_c Q s + pt_W Q k (pt_in z kk s) := fun s hs' hc => by
          have := pt_W_ge (Q := Q) (k := k) (z := z) hs' (by rw [ekk]; exact hc)
          rw [ekk] at this
          exact this
        -- on to the next distance
        have on : ∀ M2 : zM, zEpt M2 N → M2 142 = N 142 → pm_z M2 Q z → M2 119 55 ≤ L0 → min L0 (sum + pt_W Q (k + 1) z) ≤ M2 119 55 → (∀ s : Nat, s < pt_n Q → (s + 1 < dd + 1 ∨ pt_n Q < s + (dd + 1)) → pt_can Q z kk s = true → M2 119 55 ≤ sum + pt_c Q s + pt_W Q k (pt_in z kk s)) → zT g d mX12_findSum K 46 [some (.inr (.inr ((0, 12), 119))), some (.inl (kk : Int)), some (.inl sum), some (.inl (dd : Int)), some (.inl 2), none] [] M2 := by
          intro M2 a1 a2 a3 a4 a5 a6
          refine sX12_findSum_46 ⟨fun _ => ?_, fun q => by omega⟩
          rw [zw_suc (by omega)]
          exact ihf (dd + 1) M2 (by omega) (by omega) a1 a2 a3 a4 a5 a6
        refine sX12_findSum_31 ⟨fun q => ?_, fun _ => ?_⟩
        · rw [o0, zwi (x := (pt_n Q : Int) + 1) (by omega) (by omega), zwi (x := 2 * (dd : Int)) (by omega) (by omega)] at q
          omega
        refine sX12_findSum_46 ⟨fun q => by omega, fun _ => ⟨fun q => absurd rfl q, fun _ => ⟨fun _ => ?_, fun q => by omega⟩⟩⟩
        rw [show (dd : Int) - 1 = ((dd - 1 : Nat) : Int) from by omega, zwi (x := ((dd - 1 : Nat) : Int)) (by omega) (by omega)]
        have c1 : pt_c Q (dd - 1) = 4 * (dd : Int) := by
          rw [hcs]
          unfold f_steps
          omega
        refine one (dd - 1) dd 0 M (by omega) hdd (by omega) c1 (by omega) hE h142 hzM (by omega) (fun M1 hE1 h1421 hz1 hL => ?_)
        have b1 : M1 119 55 ≤ L0 ∧ min L0 (sum + pt_W Q (k + 1) z) ≤ M1 119 55 ∧ M1 119 55 ≤ M 119 55 ∧ (pt_can Q z kk (dd - 1) = true → M1 119 55 ≤ sum + pt_c Q (dd - 1) + pt_W Q k (pt_in z kk (dd - 1))) := by
          by_cases hc : pt_can Q z kk (dd - 1) = true
          · rw [if_pos hc] at hL
            have := ge (dd - 1) (by omega) hc
            exact ⟨by omega, by omega, by omega, fun _ => by omega⟩
          · rw [if_neg hc] at hL
            exact ⟨by omega, by omega, by omega, fun hh => absurd hh hc⟩
        have all1 : ∀ s : Nat, s < pt_n Q → (s + 1 < dd + 1 ∨ pt_n Q < s + dd) → pt_can Q z kk s = true → M1 119 55 ≤ sum + pt_c Q s + pt_W Q k (pt_in z kk s) := by
          intro s hs' hor hc
          by_cases q : s = dd - 1
          · rw [q] at hc ⊢
            exact b1.2.2.2 hc
          · have := hall s hs' (by omega) hc
            omega
        have o1 := (ok.e hE1).1.2
        refine sX12_findSum_46 ⟨fun q => by omega, fun _ => ⟨fun _ => ⟨fun q => absurd rfl q, fun _ => ?_⟩, fun q => by omega⟩⟩
        rw [o1, show (pt_n Q : Int) - (dd : Int) = ((pt_n Q - dd : Nat) : Int) from by omega, zwi (x := ((pt_n Q - dd : Nat) : Int)) (by omega) (by omega), zwi (x := (dd : Int) - 1) (by omega) (by omega)]
        refine ⟨fun q => ?_, fun q => ?_⟩
        · rw [show zw (((0 : Nat) : Int) + 1 + 1) = 2 from by decide]
          refine on M1 hE1 h1421 hz1 b1.1 b1.2.1 (fun s hs' hor hc => all1 s hs' (by omega) hc)
        · have c2 : pt_c Q (pt_n Q - dd) = 4 * (dd : Int) := by
            rw [hcs]
            unfold f_steps
            omega
          refine one (pt_n Q - dd) dd 1 M1 (by omega) hdd (by omega) c2 (by omega) hE1 h1421 hz1 (by omega) (fun M2 hE2 h1422 hz2 hL2' => ?_)
          have b2 : M2 119 55 ≤ L0 ∧ min L0 (sum + pt_W Q (k + 1) z) ≤ M2 119 55 ∧ M2 119 55 ≤ M1 119 55 ∧ (pt_can Q z kk (pt_n Q - dd) = true → M2 119 55 ≤ sum + pt_c Q (pt_n Q - dd) + pt_W Q k (pt_in z kk (pt_n Q - dd))) := by
            by_cases hc : pt_can Q z kk (pt_n Q - dd) = true
            · rw [if_pos hc] at hL2'
              have := ge (pt_n Q - dd) (by omega) hc
              exact ⟨by omega, by omega, by omega, fun _ => by omega⟩
            · rw [if_neg hc] at hL2'
              exact ⟨by omega, by omega, by omega, fun hh => absurd hh hc⟩
          rw [show ((1 : Nat) : Int) + 1 = 2 from rfl]
          refine on M2 hE2 h1422 hz2 b2.1 b2.2.1 (fun s hs' hor hc => ?_)
          by_cases q5 : s = pt_n Q - dd
          · rw [q5] at hc ⊢
            exact b2.2.2.2 hc
          · have := all1 s hs' (by omega) hc
            omega
    have := loop 12 1 N (by omega) (by omega) (zEpt.refl N) rfl hz (by omega) (by omega) (fun s hs' hor => by omega)
    exact this
end
