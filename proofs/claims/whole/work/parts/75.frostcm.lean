-- needs 74
/-! frost: both sides -/
section
variable {g : zG} {d : Nat} {K : Option zV → zM → Prop} {μ μ' Y X N : zM} {s m i n k j : Nat} {r : List Int} {S : zS} {co : Int → Int} {cn nn x y z b v e p t f st w far : Int}
theorem w_m_lt (o : Nat) : w_m Y far o < 4096 := f_bits_lt _ 12
theorem w_u_lt : ∀ n : Nat, w_u Y far n < 4096
  | 0 => by simp [w_u]
  | n + 1 => Nat.or_lt_two_pow (n := 12) (w_u_lt n) (w_m_lt n)
theorem c_canWarm : ∀ (e : Nat) (d w l : Nat) (μ : zM) (K : Option zV → zM → Prop), e ≤ 12 → e + 1 ≤ d → w < 4096 → l ≤ 12 → μ 26 12 = (f_ins Y : Int) → (∀ i : Nat, i < 12 → μ 30 (i : Int) = (w_m Y far i : Int) ∧ μ 31 (i : Int) = (w_u Y far (i + 1) : Int)) → μ 26 13 = 0 → (∀ T M, cw Y far e w l = some T → (∀ j, ¬ j = 26 → M j = μ j) → (∀ i, ¬ i = 13 → M 26 i = μ 26 i) → M 26 13 = (T : Int) → K (some (.inl 1)) M) → (cw Y far e w l = none → K (some (.inl 0)) μ) → zCall g d 91 [.inr (.inr ((0, 9), 26)), .inl ((e : Int) - 1), .inl (w : Int), .inl (l : Int)] μ K := by
  intro e
  induction e with
  | zero =>
    intro d w l μ K he hd hw hl h12 h30 h13 h1 h0
    simp only [cw] at h1 h0
    refine sX9_canWarm ⟨fun q => ⟨fun _ => ?_, fun q2 => by omega⟩, fun q => ?_⟩
    · rw [if_neg (by omega)] at h0
      exact h0 rfl
    · rw [if_pos (by omega)] at h1
      exact h1 0 μ rfl (fun _ _ => rfl) (fun _ _ => rfl) h13
  | succ e ih =>
    intro d w l μ K he hd hw hl h12 h30 h13 h1 h0
    simp only [cw] at h1 h0
    have a30 := h30 e (by omega)
    have mlt := w_m_lt (Y := Y) (far := far) e
    have ult := w_u_lt (Y := Y) (far := far) (e + 1)
    have ez : ((e + 1 : Nat) : Int) - 1 = (e : Int) := by omega
    rw [ez]
    refine sX9_canWarm ⟨fun q => ⟨fun q2 => by omega, fun q2 => ⟨fun q3 => ?_, fun q3 => ⟨by omega, ?_⟩⟩⟩, fun q => ?_⟩
    · rw [if_neg (by omega), if_pos (by omega)] at h0
      exact h0 rfl
    · rw [if_neg (by omega), if_neg (by omega)] at h1 h0
      rw [a30.2, zor_nat (by omega) (by omega), h12]
      refine ⟨fun q4 => ⟨by omega, ?_⟩, fun q4 => ?_⟩
      · rw [if_pos (by omega)] at h1 h0
        rw [zwi (x := (e : Int) - 1) (by omega) (by omega)]
        refine ih (d - 1) w l μ _ (by omega) (by omega) hw hl h12 h30 h13 (fun T M hc k1 k2 k3 => zb1 ?_) (fun hc => zb0 ?_)
        · simp only [hc] at h1
          exact h1 T M rfl k1 k2 k3
        · simp only [hc] at h1 h0
          rw [a30.1]
          refine ⟨fun q5 => ?_, fun q5 => ?_⟩
          · rw [if_pos (by omega)] at h0
            exact h0 rfl
          · rw [if_neg (by omega)] at h1 h0
            rw [zor_nat (by omega) (by omega), zwi (x := (l : Int) - 1) (by omega) (by omega), show (l : Int) - 1 = ((l - 1 : Nat) : Int) from by omega]
            refine ih (d - 1) (w ||| w_m Y far e) (l - 1) μ _ (by omega) (by omega) (Nat.or_lt_two_pow (n := 12) hw mlt) (by omega) h12 h30 h13 (fun T M hc k1 k2 k3 => zb1 ?_) (fun hc => zb0 ?_)
            · simp only [hc] at h1
              have g := (cw_ok (Y := Y) (far := far))
              have Tlt : T < 2 ^ e := by
                have key : ∀ (e w l T : Nat), cw Y far e w l = some T → T < 2 ^ e := by
                  intro e
                  induction e with
                  | zero =>
                    intro w l T h
                    simp only [cw] at h
                    split at h
                    · cases h; simp
                    · cases h
                  | succ e ih2 =>
                    intro w l T h
                    simp only [cw] at h
                    have p2 : 2 ^ (e + 1) = 2 ^ e + 2 ^ e := by rw [Nat.pow_succ]; omega
                    split at h
                    · cases h; exact Nat.two_pow_pos _
                    · split at h
                      · cases h
                      · split at h
                        · split at h
                          · rename_i T2 hc2
                            cases h
                            have := ih2 _ _ _ hc2
                            omega
                          · split at h
                            · cases h
                            · split at h
                              · rename_i T2 hc2
                                cases h
                                have := ih2 _ _ _ hc2
                                omega
                              · cases h
                        · cases h
                exact key e _ _ T hc
              have p12 : 2 ^ e < 4096 := Nat.pow_lt_pow_right (a := 2) (n := 12) (by omega) (by omega)
              have eT : zor (M 26 13) (zshl 1 (e : Int)) = ((T + 2 ^ e : Nat) : Int) := by
                rw [k3, zshl_all e (by omega), zor_nat (by omega) (by omega), p_add Tlt]
              rw [eT]
              exact h1 (T + 2 ^ e) _ rfl (fun j hj => by rw [zU_off j hj]; exact k1 j hj) (fun i hi => by rw [zU_ne (by omega)]; exact k2 i hi) zU_eq
            · simp only [hc] at h0
              exact h0 trivial
      · rw [if_neg (by omega)] at h0
        exact h0 rfl
    · rw [if_pos (by omega)] at h1
      exact h1 0 μ rfl (fun _ _ => rfl) (fun _ _ => rfl) h13
theorem C_frost (hd : 20 ≤ d) (hC : cS μ S) (hI : iS nn S) (h : ∀ μ', zEc μ' μ → cS μ' (o_frost S far).2 → K (some (.inl (o_frost S far).1)) μ') : zCall g d 152 [.inr (.inr ((0, 11), 0)), .inl far] μ K := by
  have we := hI.env
  unfold o_frost at h
  have no : ¬ (0 ≤ far ∧ far ≤ 12) → K (some (.inl (-1))) μ := by
    intro q
    rw [if_neg q] at h
    exact h μ (zEc.refl μ) hC
  refine sX11_frost ⟨fun _ => no (by omega), fun _ => ⟨fun _ => ⟨by omega, sX9_fewestWarm ⟨by omega, c_inStalls (zi ?_)⟩⟩, fun _ => no (by omega)⟩⟩
  rw [if_pos (by omega)] at h
  rw [hC.1.1]
  have hcs : ∀ M : zM, (∀ j, ¬ (j = 26 ∨ j = 30 ∨ j = 31) → M j = μ j) → cS M S := fun M hM => hC.scr (fun j hj => hM j (by unfold z_scr at hj; omega))
  have top := cw_fo (Y := S.1) (far := far) (by omega) 13 0 (by omega) (fun m' hm' => by omega)
  -- the men
  have lp3 : ∀ (a m : Nat) (M : zM), m + a = 13 → (∀ j, ¬ (j = 26 ∨ j = 30 ∨ j = 31) → M j = μ j) → M 26 12 = (f_ins S.1 : Int) → (∀ i : Nat, i < 12 → M 30 (i : Int) = (w_m S.1 far i : Int) ∧ M 31 (i : Int) = (w_u S.1 far (i + 1) : Int)) → cw_top S.1 far 13 0 = cw_top S.1 far a m → zT g (d - 1) mX9_fewestWarm (zIi fun r2 μ1 => K (some (.inl r2)) μ1) 131 [some (.inr (.inr ((0, 9), 26))), none, none, none, some (.inl (m : Int)), none] [] M := by
    intro a
    induction a with
    | zero =>
      intro m M hm hM h12 h30 ht
      rw [top] at ht
      cases ht
    | succ a ih =>
      intro m M hm hM h12 h30 ht
      refine sX9_fewestWarm_131 ⟨fun q => by omega, fun q => ⟨by omega, ?_⟩⟩
      have := c_canWarm (Y := S.1) (far := far) (g := g) 12 (d - 1 - 1) 0 m (zU M 26 13 0) (zBz (fun μ1 => zCall g (d - 1 - 1) 44 [.inr (.inr ((0, 5), 18)), .inl (μ1 26 13)] μ1 (zNn fun μ2 => (zIi fun r2 μ1 => K (some (.inl r2)) μ1) (some (.inl (m : Int))) μ2)) (fun μ1 => zT g (d - 1) mX9_fewestWarm (zIi fun r2 μ1 => K (some (.inl r2)) μ1) 131 [some (.inr (.inr ((0, 9), 26))), none, none, none, some (.inl (zw ((m : Int) + 1))), none] [] μ1)) (by omega) (by omega) (by omega) (by omega) (by rw [zU_ne (by omega)]; exact h12) (fun i hi => by rw [zU_off 30 (by omega), zU_off 31 (by omega)]; exact h30 i hi) zU_eq (fun T N hc k1 k2 k3 => zb1 ?_) (fun hc => zb0 ?_)
      · exact this
      · have ht2 : cw_top S.1 far (a + 1) m = some (m, T) := by simp only [cw_top, hc]
        rw [top, ht2] at ht
        have e1 := (Prod.mk.inj (Option.some.inj ht)).1
        have e2 := (Prod.mk.inj (Option.some.inj ht)).2
        rw [e1, e2] at h
        rw [k3]
        have hN : ∀ j, ¬ (j = 26 ∨ j = 30 ∨ j = 31) → N j = μ j := fun j hj => by rw [k1 j (by omega), zU_off j (by omega), hM j hj]
        refine c_tellOneR (by omega) (fun P hP hr => zn (zi ?_))
        exact h P (fun j hj => by rw [hP j (by omega), hN j (by omega)]) ((hcs N hN).row (fun j _ hj => hP j hj) hr)
      · have ht2 : cw_top S.1 far (a + 1) m = cw_top S.1 far a (m + 1) := by simp only [cw_top, hc]
        rw [zw_suc (by omega)]
        exact ih (m + 1) _ (by omega) (fun j hj => by rw [zU_off j (by omega), hM j hj]) (by rw [zU_ne (by omega)]; exact h12) (fun i hi => by rw [zU_off 30 (by omega), zU_off 31 (by omega)]; exact h30 i hi) (by rw [ht, ht2])
  -- whom each warms
  have lp1 : ∀ (a o : Nat) (M : zM), o + a = 12 → (∀ j, ¬ (j = 26 ∨ j = 30 ∨ j = 31) → M j = μ j) → M 26 12 = (f_ins S.1 : Int) → (∀ i : Nat, i < o → M 30 (i : Int) = (w_m S.1 far i : Int) ∧ M 31 (i : Int) = (w_u S.1 far (i + 1) : Int)) → zT g (d - 1) mX9_fewestWarm (zIi fun r2 μ1 => K (some (.inl r2)) μ1) 13 [some (.inr (.inr ((0, 9), 26))), some (.inr (.inr ((0, 7), 20))), some (.inl far), some (.inl (w_u S.1 far o : Int)), some (.inl (o : Int)), none] [] M := by
    intro a
    induction a with
    | zero =>
      intro o M ho hM h12 h30
      obtain rfl : o = 12 := by omega
      exact sX9_fewestWarm_13 ⟨fun _ => lp3 13 0 M (by omega) hM h12 h30 rfl, fun q => by omega⟩
    | succ a ih =>
      intro o M ho hM h12 h30
      refine sX9_fewestWarm_13 ⟨fun q => by omega, fun q => ⟨by omega, ?_⟩⟩
      have lp2 : ∀ (b e : Nat) (N : zM), e + b = 12 → (∀ j, ¬ (j = 26 ∨ j = 30 ∨ j = 31) → N j = μ j) → N 26 12 = (f_ins S.1 : Int) → (∀ i : Nat, i < o → N 30 (i : Int) = (w_m S.1 far i : Int) ∧ N 31 (i : Int) = (w_u S.1 far (i + 1) : Int)) → N 30 (o : Int) = (f_bits (w_n S.1 far o) e : Int) → zT g (d - 1) mX9_fewestWarm (zIi fun r2 μ1 => K (some (.inl r2)) μ1) 31 [some (.inr (.inr ((0, 9), 26))), some (.inr (.inr ((0, 7), 20))), some (.inl far), some (.inl (w_u S.1 far o : Int)), some (.inl (o : Int)), some (.inl (e : Int))] [] N := by
        intro b
        induction b with
        | zero =>
          intro e N he hN k12 k30 kb
          obtain rfl : e = 12 := by omega
          refine sX9_fewestWarm_31 ⟨fun _ => ⟨by omega, ?_⟩, fun q => by omega⟩
          have mlt := w_m_lt (Y := S.1) (far := far) o
          have ult := w_u_lt (Y := S.1) (far := far) o
          have kb2 : N 30 (o : Int) = (w_m S.1 far o : Int) := kb
          rw [kb2, zor_nat (by omega) (by omega), zw_suc (by omega)]
          refine ih (o + 1) _ (by omega) (fun j hj => by rw [zU_off j (by omega), hN j hj]) (by rw [zU_off 26 (by omega)]; exact k12) (fun i hi => ?_)
          rw [zU_off 30 (by omega)]
          by_cases q6 : i = o
          · subst q6
            rw [zU_eq]
            exact ⟨kb2, rfl⟩
          · rw [zU_ne (by omega)]
            exact k30 i (by omega)
        | succ b ihb =>
          intro e N he hN k12 k30 kb
          have hCN := hcs N hN
          have evN := hCN.env
          have po := (hCN.en (e := (o : Int)) (by omega)).1
          have pe := (hCN.en (e := (e : Int)) (by omega)).1
          have wo := (hI.W.2.2.2 (o : Int) (by omega)).2.1
          have wee := (hI.W.2.2.2 (e : Int) (by omega)).2.1
          have skip : w_n S.1 far o e = false → zT g (d - 1) mX9_fewestWarm (zIi fun r2 μ1 => K (some (.inl r2)) μ1) 31 [some (.inr (.inr ((0, 9), 26))), some (.inr (.inr ((0, 7), 20))), some (.inl far), some (.inl (w_u S.1 far o : Int)), some (.inl (o : Int)), some (.inl (zw ((e : Int) + 1)))] [] N := by
            intro q2
            rw [zw_suc (by omega)]
            refine ihb (e + 1) N (by omega) hN k12 k30 ?_
            rw [kb, z_no_bit q2]
          refine sX9_fewestWarm_31 ⟨fun q => by omega, fun q => ⟨by omega, c_onRoad (s := 20) (by omega) (fun q2 => zb1 (skip ?_)) (fun q2 => zb0 (c_onRoad (s := 20) (by omega) (fun q3 => zb1 (skip ?_)) (fun q3 => zb0 ⟨by omega, by omega, ?_⟩)))⟩⟩
          · rw [po] at q2
            simp [w_n, q2]
          · rw [pe] at q3
            simp [w_n, q3]
          · show zCall g (d - 1 - 1) 38 [.inr (.inr ((0, 4), 1)), .inl (N 23 (o : Int)), .inl (N 23 (e : Int))] N _
            have q2 : ¬ N 23 (o : Int) = -1 := q2
            have q3 : ¬ N 23 (e : Int) = -1 := q3
            rw [po] at q2
            rw [pe] at q3
            rw [po, pe]
            refine c_between (by omega) (by omega) (by omega) (by omega) (zi ⟨fun q4 => skip ?_, fun q4 => ?_⟩)
            · rw [evN.1] at q4
              unfold w_n
              rw [decide_eq_false (show ¬ min (max (S.1 2 (o : Int) - S.1 2 (e : Int)) (S.1 2 (e : Int) - S.1 2 (o : Int))) (S.1 13 0 - max (S.1 2 (o : Int) - S.1 2 (e : Int)) (S.1 2 (e : Int) - S.1 2 (o : Int))) ≤ far by omega)]
              simp
            · rw [evN.1] at q4
              rw [zw_suc (by omega)]
              refine ihb (e + 1) _ (by omega) (fun j hj => by rw [zU_off j (by omega), hN j hj]) (by rw [zU_off 26 (by omega)]; exact k12) (fun i hi => ?_) ?_
              · rw [zU_ne (by omega), zU_off 31 (by omega)]; exact k30 i hi
              · rw [zU_eq, kb, z_or_bit (p := w_n S.1 far o) (n := e) (by omega) (by
                  unfold w_n
                  rw [decide_eq_true q2, decide_eq_true q3, decide_eq_true q4]
                  rfl)]
      refine lp2 12 0 _ (by omega) (fun j hj => by rw [zU_off j (by omega), hM j hj]) (by rw [zU_off 26 (by omega)]; exact h12) (fun i hi => by rw [zU_ne (by omega), zU_off 31 (by omega)]; exact h30 i hi) ?_
      rw [zU_eq]; rfl
  exact lp1 12 0 _ (by omega) (fun j hj => zU_off j (by omega)) zU_eq (fun i hi => by omega)
theorem m_isWarm {s : Nat} (hd : 1 ≤ d) (hC : mS μ S) (hI : iS nn S) (hs : s &&& f_ins S.1 = s) {e : Nat} (he : (e : Int) < S.1 13 3) (hp : ¬ S.1 2 (e : Int) = -1) (h1 : (w_W S.1 far s 12).testBit e = true → K (some (.inl 1)) μ) (h0 : (w_W S.1 far s 12).testBit e = false → K (some (.inl 0)) μ) : zCall g d 271 [.inr (.inr ((0, 12), 119)), .inl (e : Int), .inl (s : Int), .inl far] μ K := by
  have we := hI.env
  have ev := hC.env
  have hs2 := (w_sub s).1 hs
  have slt : s < 4096 := by
    have := w_sub_le hs
    have := f_ins_lt (Y := S.1)
    omega
  refine sX12_isWarm ?_
  have pe := (hC.en (e := (e : Int)) (by omega)).1
  have wee := (hI.W.2.2.2 (e : Int) (by omega)).2.1
  have lp : ∀ (a o : Nat), (o : Int) + a = μ 119 6 → (∀ i : Nat, i < o → ¬ (s.testBit i = true ∧ w_n S.1 far i e = true)) → zT g d mX12_isWarm K 3 [some (.inr (.inr ((0, 12), 119))), some (.inl (e : Int)), some (.inl (s : Int)), some (.inl far), some (.inl (o : Int)), none] [] μ := by
    intro a
    induction a with
    | zero =>
      intro o ho hn
      refine sX12_isWarm_3 ⟨fun _ => h0 ?_, fun q => by omega⟩
      cases hb : (w_W S.1 far s 12).testBit e
      · rfl
      · obtain ⟨i, h2, h3, h4, h5⟩ := (w_W_t s 12 e).1 hb
        have := (hI.W.2.2.2 (i : Int) (by omega)).2.2.2
        have hh := (hs2 i h3).2
        exact absurd ⟨h3, h5⟩ (hn i (by
          apply Classical.byContradiction
          intro h9
          exact hh (this (by omega)).1))
    | succ a ih =>
      intro o ho hn
      have po := (hC.en (e := (o : Int)) (by omega)).1
      have wo := (hI.W.2.2.2 (o : Int) (by omega)).2.1
      have tb := z_tst0 (m := s) (e := (o : Int)) (by omega) (by omega)
      rw [show ((o : Int)).toNat = o from by omega] at tb
      have skip : ¬ (s.testBit o = true ∧ w_n S.1 far o e = true) → zT g d mX12_isWarm K 3 [some (.inr (.inr ((0, 12), 119))), some (.inl (e : Int)), some (.inl (s : Int)), some (.inl far), some (.inl (zw ((o : Int) + 1))), none] [] μ := by
        intro q
        rw [zw_suc (by omega)]
        refine ih (o + 1) (by omega) (fun i hi => ?_)
        by_cases q6 : i = o
        · subst q6; exact q
        · exact hn i (by omega)
      refine sX12_isWarm_3 ⟨fun q => by omega, fun q => ⟨fun q2 => ⟨by omega, by omega, by omega, ?_⟩, fun q2 => skip (fun hh => ?_)⟩⟩
      · have q3 : s.testBit o = true := by
          cases hb : s.testBit o
          · exact absurd (tb.2 hb) q2
          · rfl
        have hpo := (hs2 o q3).2
        rw [pe, po, zwi (x := S.1 2 (e : Int) - S.1 2 (o : Int)) (by omega) (by omega)]
        have ea : zabs (S.1 2 (e : Int) - S.1 2 (o : Int)) = max (S.1 2 (o : Int) - S.1 2 (e : Int)) (S.1 2 (e : Int) - S.1 2 (o : Int)) := by
          unfold zabs
          split
          · omega
          · rw [zwi (by omega) (by omega)]; omega
        rw [ea, ev.1, zwi (x := S.1 13 0 - max (S.1 2 (o : Int) - S.1 2 (e : Int)) (S.1 2 (e : Int) - S.1 2 (o : Int))) (by omega) (by omega)]
        refine ⟨fun q4 => skip (fun hh => ?_), fun q4 => h1 ((w_W_t s 12 e).2 ⟨o, by omega, q3, by omega, ?_⟩)⟩
        · have := hh.2
          unfold w_n at this
          simp at this
          omega
        · unfold w_n
          rw [decide_eq_true hpo, decide_eq_true hp, decide_eq_true q4]
          rfl
      · rw [tb.1 q2] at hh
        cases hh.1
  exact lp (μ 119 6).toNat 0 (by omega) (fun i hi => by omega)
theorem M_frost (hd : 20 ≤ d) (hC : mS μ S) (hI : iS nn S) (h : ∀ μ', zEd μ' μ → mS μ' (o_frost S far).2 → K (some (.inl (o_frost S far).1)) μ') : zCall g d 270 [.inr (.inr ((0, 12), 119)), .inl far] μ K := by
  have we := hI.env
  have hC0 : mS (zU μ 119 33 0) S := hC.thr
  have hE : zEd (zU μ 119 33 0) μ := (zEd.refl μ).u (by omega)
  unfold o_frost at h
  refine sX12_frost ⟨by omega, ?_⟩
  generalize zU μ 119 33 0 = N0 at *
  have ev := hC0.env
  have alt := f_ins_lt (Y := S.1)
  refine m_in (fun q1 => zb1 (m_inStalls (co := S.1 14) (cn := S.1 15 0) (hC0.W hI) (zi ?_))) (fun q1 => zb0 ?_)
  · rw [if_pos q1] at h
    rw [hC0.1.1]
    obtain ⟨F, hF⟩ : ∃ F, fo S.1 far = F := ⟨_, rfl⟩
    have F0 : F 0 = -1 := by rw [← hF]; rfl
    have Fs : ∀ s : Nat, F (s + 1) = if s &&& f_ins S.1 = s ∧ (F s = -1 ∨ fr_c s 12 < fr_c (F s).toNat 12) ∧ w_W S.1 far s 12 = f_ins S.1 then (s : Int) else F s := by intro s; rw [← hF]; rfl
    have Fb : ∀ s : Nat, F s = -1 ∨ (0 ≤ F s ∧ F s < (s : Int)) := by
      intro s
      rw [← hF]
      rcases fo_b (Y := S.1) (far := far) s with h2 | h2
      · exact Or.inl h2.1
      · exact Or.inr ⟨h2.1, h2.2.1⟩
    have Fl : 0 ≤ F (f_ins S.1 + 1) := by
      rw [← hF]
      rcases fo_b (Y := S.1) (far := far) (f_ins S.1 + 1) with ⟨_, h2⟩ | h2
      · exact absurd (w_all q1.1) (h2 _ (by omega))
      · exact h2.1
    rw [hF] at h
    clear hF
    have lp : ∀ (a s : Nat), s + a = f_ins S.1 + 1 → zT g d mX12_frost K 27 [some (.inr (.inr ((0, 12), 119))), some (.inl far), some (.inl (f_ins S.1 : Int)), some (.inl (F s)), some (.inl (s : Int)), none, none] [] N0 := by
      intro a
      induction a with
      | zero =>
        intro s hs
        obtain rfl : s = f_ins S.1 + 1 := by omega
        refine sX12_frost_27 ⟨fun _ => ⟨by omega, m_tellR mR_0 (by simp) (fun Q hQ hr => zn ?_)⟩, fun q => by omega⟩
        have hQ' := hQ.trans zE32_0
        have fb := Fb (f_ins S.1 + 1)
        have eF : F (f_ins S.1 + 1) = (((F (f_ins S.1 + 1)).toNat : Nat) : Int) := by omega
        rw [eF]
        rw [eF] at hr
        refine j_bcn (by omega) (zi ?_)
        exact h Q (fun j hj => by rw [hQ'.1 j (by omega), hE j hj]) (hC0.row (fun j _ hj => hQ'.1 j hj) (fun i _ hi => hQ'.2 i hi) hr)
      | succ a ih =>
        intro s hs
        have nx := ih (s + 1) (by omega)
        rw [Fs s] at nx
        have fb := Fb s
        have slt : s < 4096 := by omega
        have za : zand (s : Int) (zxor (f_ins S.1 : Int) (-1)) = 0 ↔ s &&& f_ins S.1 = s := by
          constructor
          · intro h0
            refine b_ext (fun i => ?_)
            rw [Nat.testBit_and, Bool.and_eq_true]
            refine ⟨fun hh => hh.1, fun hi => ⟨hi, ?_⟩⟩
            have hi32 : i < 32 := by
              apply Classical.byContradiction
              intro h9
              rw [n_tb (n := 12) slt (by omega)] at hi
              cases hi
            have hb := congrArg (fun z => zbit z i) h0
            simp only [zbit_and, zbit_0] at hb
            rw [zbit_not _ _ hi32, zbit_nat _ _ hi32, zbit_nat _ _ hi32, hi] at hb
            simpa using hb
          · intro h0
            refine zb_ext (zI32_and _ _) (by unfold zI32; omega) (fun i hi => ?_)
            rw [zbit_and, zbit_not _ _ hi, zbit_nat _ _ hi, zbit_nat _ _ hi, zbit_0]
            have := congrArg (fun z => Nat.testBit z i) h0
            simp only [Nat.testBit_and] at this
            cases hb : s.testBit i
            · rfl
            · rw [hb] at this
              simp at this
              rw [this]; rfl
        have skip : ¬ (s &&& f_ins S.1 = s ∧ (F s = -1 ∨ fr_c s 12 < fr_c (F s).toNat 12) ∧ w_W S.1 far s 12 = f_ins S.1) → zT g d mX12_frost K 27 [some (.inr (.inr ((0, 12), 119))), some (.inl far), some (.inl (f_ins S.1 : Int)), some (.inl (F s)), some (.inl (zw ((s : Int) + 1))), none, none] [] N0 := by
          intro q
          rw [if_neg q] at nx
          rw [zw_suc (by omega)]; exact nx
        -- whether all are warm
        have warm : s &&& f_ins S.1 = s → (F s = -1 ∨ fr_c s 12 < fr_c (F s).toNat 12) → ∀ (b e : Nat) (bb : Bool), (e : Int) + b = N0 119 6 → (bb = true ↔ ∀ i : Nat, i < e → (f_ins S.1).testBit i = true → (w_W S.1 far s 12).testBit i = true) → zT g d mX12_frost K 68 [some (.inr (.inr ((0, 12), 119))), some (.inl far), some (.inl (f_ins S.1 : Int)), some (.inl (F s)), some (.inl (s : Int)), some (.inl (zB bb)), some (.inl (e : Int))] [] N0 := by
          intro qs qF b
          have nof : ∀ (e : Nat) (bb : Bool), bb = false → (bb = true ↔ ∀ i : Nat, i < e → (f_ins S.1).testBit i = true → (w_W S.1 far s 12).testBit i = true) → ¬ w_W S.1 far s 12 = f_ins S.1 := by
            intro e bb h1 h2 h3
            have : bb = true := h2.2 (fun i _ hi => by rw [h3]; exact hi)
            rw [h1] at this
            cases this
          induction b with
          | zero =>
            intro e bb he hb
            refine sX12_frost_68 ⟨fun _ => ⟨fun q5 => skip (fun hh => ?_), fun q5 => ?_⟩, fun q => by omega⟩
            · have hf : bb = false := by cases bb; rfl; cases q5
              exact nof e bb hf hb hh.2.2
            · have hf : bb = true := by cases bb; exact absurd rfl q5; rfl
              have hall : w_W S.1 far s 12 = f_ins S.1 := by
                refine b_ext (fun i => ⟨fun hi => ?_, fun hi => ?_⟩)
                · obtain ⟨o, h2, h3, h4, h5⟩ := (w_W_t s 12 i).1 hi
                  exact (f_ins_t i).2 ⟨h4, (w_n_in h5).2⟩
                · have h2 := (f_ins_t i).1 hi
                  refine hb.1 hf i ?_ hi
                  apply Classical.byContradiction
                  intro h9
                  exact h2.2 ((hI.W.2.2.2 (i : Int) (by omega)).2.2.2 (by omega)).1
              rw [if_pos ⟨qs, qF, hall⟩] at nx
              rw [zw_suc (by omega)]; exact nx
          | succ b ihb =>
            intro e bb he hb
            have pe := (hC0.en (e := (e : Int)) (by omega)).1
            refine sX12_frost_68 ⟨fun q => by omega, fun q => ⟨fun q5 => skip (fun hh => ?_), fun q5 => ⟨by omega, ?_⟩⟩⟩
            · have hf : bb = false := by cases bb; rfl; cases q5
              exact nof e bb hf hb hh.2.2
            · have hf : bb = true := by cases bb; exact absurd rfl q5; rfl
              rw [pe]
              refine ⟨fun q6 => ?_, fun q6 => ⟨by omega, m_isWarm (by omega) hC0 hI qs (by omega) q6 (fun q7 => zb1 ?_) (fun q7 => zb0 ?_)⟩⟩
              · rw [zw_suc (by omega)]
                refine ihb (e + 1) true (by omega) ⟨fun _ i hi hin => ?_, fun _ => rfl⟩
                by_cases q8 : i = e
                · subst q8; exact absurd q6 ((f_ins_t i).1 hin).2
                · exact hb.1 hf i (by omega) hin
              · rw [zw_suc (by omega)]
                refine ihb (e + 1) true (by omega) ⟨fun _ i hi hin => ?_, fun _ => rfl⟩
                by_cases q8 : i = e
                · subst q8; exact q7
                · exact hb.1 hf i (by omega) hin
              · rw [zw_suc (by omega)]
                refine ihb (e + 1) false (by omega) ⟨fun hh => (by cases hh), fun hh => ?_⟩
                have := hh e (by omega) ((f_ins_t e).2 ⟨by omega, q6⟩)
                rw [q7] at this
                cases this
        have go : s &&& f_ins S.1 = s → (F s = -1 ∨ fr_c s 12 < fr_c (F s).toNat 12) → zT g d mX12_frost K 68 [some (.inr (.inr ((0, 12), 119))), some (.inl far), some (.inl (f_ins S.1 : Int)), some (.inl (F s)), some (.inl (s : Int)), some (.inl 1), some (.inl 0)] [] N0 := fun q qF => warm q qF (N0 119 6).toNat 0 true (by omega) ⟨fun _ i hi => by omega, fun _ => rfl⟩
        refine sX12_frost_27 ⟨fun q => by omega, fun q => ⟨fun q2 => skip (fun hh => q2 (za.2 hh.1)), fun q2 => ⟨fun q3 => go (za.1 q2) (Or.inl q3), fun q3 => ⟨by omega, j_bcn slt (zi ?_)⟩⟩⟩⟩
        have eF : F s = (((F s).toNat : Nat) : Int) := by omega
        have f4 : (F s).toNat < 4096 := by omega
        generalize hT : (F s).toNat = T at *
        rw [eF]
        refine j_bcn f4 (zi ⟨fun q4 => ?_, fun q4 => ?_⟩)
        · rw [← eF]
          exact go (za.1 q2) (Or.inr (by omega))
        · rw [← eF]
          exact skip (fun hh => by rcases hh.2.1 with h9 | h9 <;> omega)
    have := lp (f_ins S.1 + 1) 0 (by omega)
    rw [F0] at this
    exact this
  · rw [if_neg q1] at h
    exact h N0 hE hC0
end
