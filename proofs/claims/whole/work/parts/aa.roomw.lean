-- needs a9
/-! room: the class's call -/
theorem zA_0 : (fun s => Nat.testBit 0 s = true) = fun _ : Nat => False := by
  funext s
  rw [Nat.zero_testBit]
  simp
theorem cS.e62 {μ μ' : zM} {S : zS} {r : List Int} (hC : cS μ S) (e : ∀ j, ¬ z_scr j → ¬ (j = 18 ∨ j = 19 ∨ j = 62) → μ' j = μ j) (e4 : μ' 62 4 = μ 62 4) (e6 : μ' 62 6 = μ 62 6) (hr : cR μ' r) : cS μ' (sR S r) := by
  unfold z_scr at e
  obtain ⟨h1, h2, h3, h4, h5, h6, h7⟩ := hC
  exact ⟨h1.same (fun j hj => e j (by omega) (by omega)), h2.same (by rw [e 12 (by omega) (by omega)]) (e 13 (by omega) (by omega)), hr, h4.same e4 e6 (e 63 (by omega) (by omega)) (e 64 (by omega) (by omega)), h5.same (e 71 (by omega) (by omega)) (e 72 (by omega) (by omega)) (e 10 (by omega) (by omega)) (e 11 (by omega) (by omega)), h6.same (by rw [e 78 (by omega) (by omega)]) (fun j _ _ => e j (by omega) (by omega)), h7.same (by rw [e 0 (by omega) (by omega)]) (fun j _ _ => e j (by omega) (by omega))⟩
section
variable {g : zG} {d : Nat} {K : Option zV → zM → Prop} {μ Y : zM} {nn x : Int} {S : zS}
theorem c_stallsFor {n e : Nat} (hd : 3 ≤ d) (hv : vC μ 20 = Y) (hW : y_W Y) (hR : y_R Y) (hr : zrl μ) (hn : μ 1 0 = (n : Int)) (n23 : n ≤ 23) (he : e < 12) (h : ∀ μ', zEq16 μ' μ → K (some (.inl ((f_bits (fun s => f_takes Y (s : Int) (e : Int)) n : Nat) : Int))) μ') : zCall g d 10 [.inr (.inr ((0, 0), 62)), .inl (e : Int)] μ K := by
  refine sX0_stallsFor ?_
  have loop : ∀ (k s : Nat) (N : zM), s + k = n → zEq16 N μ → zT g d mX0_stallsFor K 4 [some (.inr (.inr ((0, 0), 62))), some (.inl (e : Int)), some (.inl ((f_bits (fun s => f_takes Y (s : Int) (e : Int)) s : Nat) : Int)), some (.inl (s : Int))] [] N := by
    intro k
    induction k with
    | zero =>
      intro s N hs hN
      obtain rfl : s = n := by omega
      exact sX0_stallsFor_4 ⟨fun _ => h N hN, fun q => by rw [hN 1 (by omega), hn] at q; omega⟩
    | succ k ih =>
      intro s N hs hN
      have vN : vC N 20 = Y := by rw [hN.v hr (by omega), hv]
      have bl := f_bits_lt (fun s => f_takes Y (s : Int) (e : Int)) s
      have p23 : 2 ^ s ≤ 2 ^ 23 := Nat.pow_le_pow_right (by omega) (by omega)
      refine sX0_stallsFor_4 ⟨fun q => by rw [hN 1 (by omega), hn] at q; omega, fun _ => ⟨by omega, c_takesIt (by omega) (by omega) (hN.rl hr) (by rw [vN]; exact hW) (by rw [vN]; exact hR) (by omega) (by omega) (fun M hM q => zb1 ?_) (fun M hM q => zb0 ?_)⟩⟩
      · rw [vN] at q
        rw [zshl_1 (by omega), show ((s : Int)).toNat = s from by omega, zor_nat (by omega) (by omega), zw_suc (by omega), f_bits_or (fun s => f_takes Y (s : Int) (e : Int)) s q]
        exact ih (s + 1) M (by omega) (hM.trans hN)
      · rw [vN] at q
        have e2 : f_bits (fun s => f_takes Y (s : Int) (e : Int)) (s + 1) = f_bits (fun s => f_takes Y (s : Int) (e : Int)) s := by
          rw [f_bits, if_neg (by rw [q]; simp), Nat.add_zero]
        rw [zw_suc (by omega), ← e2]
        exact ih (s + 1) M (by omega) (hM.trans hN)
  exact loop n 0 μ (by omega) (zEq16.refl μ)
/-- the cells that room writes -/
def zEro (μ' μ : zM) : Prop := (∀ j, ¬ (j = 16 ∨ j = 17 ∨ j = 18 ∨ j = 19 ∨ j = 62 ∨ j = 67 ∨ j = 68 ∨ j = 69) → μ' j = μ j) ∧ ∀ i, ¬ (12 ≤ i ∧ i ≤ 14) → μ' 62 i = μ 62 i
theorem zEro.trans {a b c : zM} (h : zEro a b) (h' : zEro b c) : zEro a c := ⟨fun j hj => (h.1 j hj).trans (h'.1 j hj), fun i hi => (h.2 i hi).trans (h'.2 i hi)⟩
theorem zEro.f {a b : zM} (h : zEfl a b) : zEro a b := ⟨fun j hj => h.1 j (by omega), fun i hi => h.2 i (by omega)⟩
theorem zEro.q {a b : zM} (h : zEq16 a b) : zEro a b := ⟨fun j hj => h j (by omega), fun i _ => by rw [h 62 (by omega)]⟩
theorem zEro.r {a b : zM} (h : zE18 a b) : zEro a b := ⟨fun j hj => h j (by omega), fun i _ => by rw [h 62 (by omega)]⟩
theorem zEro.u {a b : zM} {j : Nat} {i v : Int} (h : zEro a b) (hj : j = 67 ∨ j = 68 ∨ j = 69) : zEro (zU a j i v) b := ⟨fun k hk => by rw [zU_off k (by omega)]; exact h.1 k hk, fun k hk => by rw [zU_off 62 (by omega)]; exact h.2 k hk⟩
theorem zEro.s {a b : zM} {i v : Int} (h : zEro a b) (hi : 12 ≤ i ∧ i ≤ 14) : zEro (zU a 62 i v) b := ⟨fun k hk => by rw [zU_off k (by omega)]; exact h.1 k hk, fun k hk => by rw [zU_ne (by omega)]; exact h.2 k hk⟩
def sk_ok0 (N : zM) (R : zRm) (T : Nat → Bool) (Pl : Nat → Prop) (M : Nat → Int) (sn fd e : Nat) : Prop := (∀ x : Nat, x < 12 → Pl x → ∃ l : Nat, N 67 (x : Int) = (l : Int) ∧ l < 2 ^ 23 ∧ ∀ s, l.testBit s = (decide (s < rm_n R) && rm_a R x s)) ∧ ((N 62 12 = (sn : Int) ∧ sn < 2 ^ 23) ∨ ∀ x, x < e → rm_p R x = false) ∧ (N 62 13 = (fd : Int) ∧ fd < 2 ^ 23 ∧ ∀ s, s < rm_n R → T s = !fd.testBit s) ∧ ∀ s : Nat, s < rm_n R → N 69 (s : Int) = M s
theorem c_mostSeated {D E : Nat} (hd : 20 ≤ d) (hD0 : 0 < D) (hC : cS μ S) (hI : iS nn S) (hE : S.1 13 3 = (E : Int)) (hD : D < 2 ^ E) (h : ∀ μ', zEc μ' μ → cS μ' (sR S (rm_row (rm_R S.1 D) 12 (fun _ => true))) → K (some (.inl (rm_nu (rm_R S.1 D) 12 (fun _ => true)))) μ') : zCall g d 9 [.inr (.inr ((0, 0), 62)), .inl (D : Int)] μ K := by
  have w := hI.env
  have ev := hC.env
  have E12 : E ≤ 12 := by omega
  have p12 : 2 ^ E ≤ 2 ^ 12 := Nat.pow_le_pow_right (by omega) E12
  obtain ⟨R, hR⟩ : ∃ R, rm_R S.1 D = R := ⟨_, rfl⟩
  rw [hR] at h
  have nR : S.1 13 0 = (rm_n R : Int) := by
    rw [← hR]
    show S.1 13 0 = ((S.1 13 0).toNat : Int)
    omega
  have n23 : rm_n R ≤ 23 := by omega
  have aR : ∀ x s : Nat, rm_a R x s = f_takes S.1 (s : Int) (x : Int) := fun x s => by rw [← hR]; rfl
  have pR : ∀ x : Nat, rm_p R x = D.testBit x := fun x => by rw [← hR]; rfl
  have p12' : ∀ x, rm_p R x = true → x < 12 := fun x hx => by
    rcases Nat.lt_or_ge x 12 with z | z
    · exact z
    · rw [pR, Nat.testBit_lt_two_pow (Nat.lt_of_lt_of_le (show D < 2 ^ 12 by omega) (Nat.pow_le_pow_right (n := 2) (by omega) z))] at hx
      cases hx
  obtain ⟨all, eall⟩ : ∃ all, rm_nu R 12 (fun _ => true) = all := ⟨_, rfl⟩
  obtain ⟨row, erow⟩ : ∃ row, rm_row R 12 (fun _ => true) = row := ⟨_, rfl⟩
  rw [eall, erow] at h
  have Roe : ∀ P : zM, zEro P μ → vC P 20 = S.1 ∧ zrl P ∧ P 1 0 = (rm_n R : Int) := fun P hP => ⟨by rw [← hC.1.1]; exact vC_off (by omega) hC.1.2.1 (fun j hj => hP.1 j (by omega)), zrl_same hC.1.2.1 (hP.1 12 (by omega)), by rw [hP.1 1 (by omega), ev.1, nR]⟩
  -- each gets its least place
  have fix : ∀ (k e : Nat) (P : zM) (T : Nat → Bool) (M : Nat → Int) (fd sn uf : Nat) (u : Nat → Bool) (r : List Int), e + k = 12 → zEro P μ → cR P r → r.length ≤ e → (∀ x, u x = uf.testBit x) → uf < 4096 → P 62 14 = (uf : Int) → (∀ x, u x = true ↔ (e ≤ x ∧ rm_p R x = true)) → sk_ok P R T (fun x => rm_p R x = true) M sn fd → km_v R T (fun x => u x = true) M → km_b R T M (rm_g u P) → rm_sz (rm_g u P) = rm_nu R (12 - e) T → row = r ++ rm_row R (12 - e) T → zT g d mX0_mostSeated K 87 [some (.inr (.inr ((0, 0), 62))), some (.inl (D : Int)), some (.inl all), some (.inl (e : Int))] [] P := by
    intro k
    induction k with
    | zero =>
      intro e P T M fd sn uf u r he hP hr hl hu huf h14 hu2 ok hv hb hsz hrow
      obtain rfl : e = 12 := by omega
      refine sX0_mostSeated_87 ⟨fun _ => h P (fun j hj => hP.1 j (by omega)) ?_, fun q => by omega⟩
      have hrow : row = r ++ [] := hrow
      rw [List.append_nil] at hrow
      rw [hrow]
      exact hC.e62 (fun j hj1 hj2 => hP.1 j (by unfold z_scr at hj1; omega)) (hP.2 4 (by omega)) (hP.2 6 (by omega)) hr
    | succ k ih =>
      intro e P T M fd sn uf u r he hP hr hl hu huf h14 hu2 ok hv hb hsz hrow
      have e11 : 11 - (11 - e) = e := by omega
      have k1 : 12 - e = (11 - e) + 1 := by omega
      have k2 : 12 - (e + 1) = 11 - e := by omega
      refine sX0_mostSeated_87 ⟨fun q => by omega, fun _ => ?_⟩
      rw [z_tst0 (by omega) (by omega), show ((e : Int)).toNat = e from by omega, ← pR e]
      refine ⟨fun q => ?_, fun q => ⟨by omega, ?_⟩⟩
      · have nn0 := rm_nu_n (R := R) (k := 11 - e) (T := T) (by rw [e11]; exact q)
        rw [zw_suc (by omega)]
        refine ih (e + 1) P T M fd sn uf u r (by omega) hP hr (by omega) hu huf h14 (fun x => ?_) ok hv hb (by rw [k2, hsz, k1]; exact nn0.1) (by rw [k2, hrow, k1, nn0.2])
        rw [hu2 x]
        refine ⟨fun z => ⟨?_, z.2⟩, fun z => ⟨by omega, z.2⟩⟩
        have z1 := z.1
        by_cases y : x = e
        · have z2 := z.2
          rw [y, q] at z2
          cases z2
        · omega
      · have pe : rm_p R e = true := by
          cases z : rm_p R e
          · exact absurd z q
          · rfl
        have ue : u e = true := (hu2 e).2 ⟨by omega, pe⟩
        rw [h14, or_clr_z huf (by omega)]
        obtain ⟨uf', euf⟩ : ∃ uf', or_clr uf e = uf' := ⟨_, rfl⟩
        have uf'l : uf' < 4096 := by rw [← euf]; exact or_clr_lt uf e
        have uft : ∀ i, uf'.testBit i = (decide (i < 12) && (uf.testBit i && decide (¬ i = e))) := fun i => by rw [← euf]; exact or_clr_t uf e i
        rw [euf]
        have u2 : ∀ x, uf'.testBit x = true ↔ (e + 1 ≤ x ∧ rm_p R x = true) := fun x => by
          rw [uft x, ← hu x, Bool.and_eq_true, Bool.and_eq_true, decide_eq_true_eq, decide_eq_true_eq, hu2 x]
          refine ⟨fun z => ⟨by omega, z.2.1.2⟩, fun z => ⟨p12' x z.2, ⟨by omega, z.2⟩, by omega⟩⟩
        have uu : ∀ x, u x = true ↔ (uf'.testBit x = true ∨ x = e) := fun x => by
          rw [hu2 x, u2 x]
          refine ⟨fun z => ?_, fun z => ?_⟩
          · by_cases y : x = e
            · exact Or.inr y
            · exact Or.inl ⟨by omega, z.2⟩
          · rcases z with z | z
            · exact ⟨by omega, z.2⟩
            · rw [z]
              exact ⟨Nat.le_refl _, pe⟩
        obtain ⟨P1, eP1⟩ : ∃ P1, zU P 62 14 (uf' : Int) = P1 := ⟨_, rfl⟩
        have p68 : P1 68 = P 68 := by rw [← eP1]; exact zU_off 68 (by omega)
        have bx : ∀ x : Nat, x < 12 → u x = true → (P1 68 (x : Int) = -1 ∧ ¬ km_h R T M x) ∨ ∃ s : Nat, s < rm_n R ∧ T s = true ∧ P1 68 (x : Int) = (s : Int) ∧ M s = (x : Int) := fun x hx ux => by
          have := hb x hx
          unfold rm_g at this
          rw [if_pos ux] at this
          rw [p68]
          exact this
        obtain ⟨o1, o2, o3, o4⟩ := ok
        rw [eP1]
        refine c_fixLeast (R := R) (T := T) (u := fun x => uf'.testBit x) (Pl := fun x => rm_p R x = true) (M := M) (k := 11 - e) (e := e) (fd := fd) (uf := uf') (sn0 := sn) (by omega) n23 (by omega) e11.symm pe (fun _ => rfl) uf'l (by rw [← eP1, zU_eq]) u2 (fun x hx => ((u2 x).1 hx).2) pe ⟨fun s s1 s2 => ?_, hv.2⟩ (bx e (by omega) ue) (fun x hx ux => bx x hx ((uu x).2 (Or.inl ux))) ?_ ⟨by rw [← eP1, zU_off 67 (by omega)]; exact o1, by rw [← eP1, zU_ne (by omega)]; exact o2, by rw [← eP1, zU_ne (by omega)]; exact o3, fun s hs => by rw [← eP1, zU_off 69 (by omega)]; exact o4 s hs⟩ (fun P2 T2 M2 fd2 sn2 hP2 ok2 v2 b2 s2 r2 => zn ⟨by omega, c_tellR (r := r) ?_ (by omega) (fun P3 hP3 hr3 => zn ?_)⟩)
        · rcases hv.1 s s1 s2 with y | ⟨x, x1, x2, x3, x4⟩
          · exact Or.inl y
          · exact Or.inr ⟨x, x1, x2, (uu x).1 x3, x4⟩
        · have eg : rm_sz (rm_g (fun x => uf'.testBit x) P1) = rm_sz (fun x => if x = e then -1 else rm_g u P x) := su_congr 12 0 (fun x _ hx => by
            show rm_i (if uf'.testBit x = true then P1 68 (x : Int) else -1) = rm_i (if x = e then -1 else (if u x = true then P 68 (x : Int) else -1))
            by_cases z : x = e
            · rw [if_pos z, if_neg (fun y => by have := ((u2 x).1 y).1; omega)]
            · rw [if_neg z, p68]
              by_cases y : uf'.testBit x = true
              · rw [if_pos y, if_pos ((uu x).2 (Or.inl y))]
              · rw [if_neg y, if_neg (fun t => ((uu x).1 t).elim y z)])
          have ge : rm_g u P e = P 68 (e : Int) := if_pos ue
          rw [eg, rm_sz_u (by omega), ge, rm_i_n, p68, ← k1, ← hsz]
          omega
        · rw [← eP1] at hP2
          exact hr.same (by rw [hP2.1 18 (by omega), zU_off 18 (by omega)]) (by rw [hP2.1 19 (by omega), zU_off 19 (by omega)])
        · rw [zw_suc (by omega)]
          have hP2' : zEro P2 μ := (zEro.f hP2).trans (by rw [← eP1]; exact hP.s (by omega))
          obtain ⟨c1, c2, c3, c4⟩ := ok2
          have g3 : rm_g (fun x => uf'.testBit x) P3 = rm_g (fun x => uf'.testBit x) P2 := by
            funext x
            unfold rm_g
            rw [hP3 68 (by omega)]
          refine ih (e + 1) P3 T2 M2 fd2 sn2 uf' (fun x => uf'.testBit x) (r ++ [P2 68 (e : Int)]) (by omega) ((zEro.r hP3).trans hP2') hr3 (by simp; omega) (fun _ => rfl) uf'l (by rw [hP3 62 (by omega), hP2.2 14 (by omega), ← eP1, zU_eq]) u2 ⟨by rw [hP3 67 (by omega)]; exact c1, by rw [hP3 62 (by omega)]; exact c2, by rw [hP3 62 (by omega)]; exact c3, fun s hs => by rw [hP3 69 (by omega)]; exact c4 s hs⟩ v2 (by rw [g3]; exact b2) (by rw [g3, k2]; exact s2) ?_
          rw [hrow, k1, r2, k2, List.append_assoc]
          rfl
  -- all are seated that may be
  have seat : ∀ (k e : Nat) (P : zM) (M : Nat → Int) (sn : Nat) (Z : Nat → Prop), e + k = 12 → zEro P μ → P 62 14 = (D : Int) → sk_ok0 P R (fun _ => true) (rm_Pe R 0 e) M sn 0 e → km_I R (fun _ => true) (rm_Pe R 0 e) M Z → km_b R (fun _ => true) M (fun x => P 68 (x : Int)) → zT g d mX0_mostSeated K 30 [some (.inr (.inr ((0, 0), 62))), some (.inl (D : Int)), some (.inl (rm_sz (fun x => P 68 (x : Int)))), some (.inl (e : Int))] [] P := by
    intro k
    induction k with
    | zero =>
      intro e P M sn Z he hP h14 ok hIe hb
      obtain rfl : e = 12 := by omega
      refine sX0_mostSeated_30 ⟨fun _ => ⟨by omega, c_emptyR (fun P2 hP2 hr2 => zn ?_)⟩, fun q => by omega⟩
      have pp : ∀ x, x < 12 → (rm_Pe R 0 12 x ↔ D.testBit x = true) := fun x hx => by
        rw [← pR]
        exact ⟨fun z => z.2, fun z => ⟨⟨by omega, hx⟩, z⟩⟩
      have hI2 := km_v_c hIe pp
      have mx := km_max (k := 12) (lo := 0) (by omega) (by omega) (km_v_c hIe (fun x hx => ⟨fun z => (⟨by omega, z.2⟩ : rm_Pd R 0 x), fun z => ⟨⟨by omega, hx⟩, z.2⟩⟩)) hb
      rw [mx, eall]
      have gg : ∀ x : Nat, x < 12 → rm_g (fun x => D.testBit x) P2 x = P 68 (x : Int) := fun x hx => by
        unfold rm_g
        rw [hP2 68 (by omega)]
        by_cases z : D.testBit x = true
        · rw [if_pos z]
        · rw [if_neg z]
          rcases hb x hx with ⟨b1, _⟩ | ⟨s, s1, s2, s3, s4⟩
          · exact b1.symm
          · rcases hI2.1.1 s s1 s2 with y | ⟨y, _, y2, y3, _⟩
            · omega
            · obtain rfl : y = x := by omega
              exact absurd y3 z
      obtain ⟨o1, o2', o3, o4⟩ := ok
      have o2 := o2'.resolve_right (fun z => by
        obtain ⟨y, y1, y2, _⟩ := low_x 12 D (by omega) (by omega)
        have := z y y1
        rw [pR, y2] at this
        cases this)
      refine fix 12 0 P2 (fun _ => true) M 0 sn D (fun x => D.testBit x) [] (by omega) ((zEro.r hP2).trans hP) hr2 (by simp) (fun _ => rfl) (by omega) (by rw [hP2 62 (by omega)]; exact h14) (fun x => by rw [← pR]; exact ⟨fun z => ⟨by omega, z⟩, fun z => z.2⟩) ⟨fun x hx px => by rw [hP2 67 (by omega)]; exact o1 x hx ⟨⟨by omega, hx⟩, px⟩, by rw [hP2 62 (by omega)]; exact o2, by rw [hP2 62 (by omega)]; exact o3, fun s hs => by rw [hP2 69 (by omega)]; exact o4 s hs⟩ hI2.1 (fun x hx => by rw [gg x hx]; exact hb x hx) ?_ (by rw [← erow]; rfl)
      rw [show 12 - 0 = 12 from rfl, ← mx]
      exact su_congr 12 0 (fun x _ hx => by rw [gg x (by omega)])
    | succ k ih =>
      intro e P M sn Z he hP h14 ok hIe hb
      refine sX0_mostSeated_30 ⟨fun q => by omega, fun _ => ?_⟩
      rw [z_tst0 (by omega) (by omega), show ((e : Int)).toNat = e from by omega, ← pR e]
      obtain ⟨o1, o2, o3, o4⟩ := ok
      refine ⟨fun q => ?_, fun q => ⟨by omega, ?_⟩⟩
      · rw [zw_suc (by omega)]
        have pq : ∀ x, rm_Pe R 0 (e + 1) x → rm_Pe R 0 e x := fun x z => ⟨⟨by omega, by
          have z1 := z.1.2
          by_cases y : x = e
          · have z2 := z.2
            rw [y, q] at z2
            cases z2
          · omega⟩, z.2⟩
        exact ih (e + 1) P M sn Z (by omega) hP h14 ⟨fun x hx px => o1 x hx (pq x px), o2.imp id (fun z x hx => by
          by_cases y : x = e
          · rw [y]
            exact q
          · exact z x (by omega)), o3, o4⟩ (km_v_c hIe (fun x _ => ⟨fun z => ⟨⟨by omega, by have := z.1.2; omega⟩, z.2⟩, pq x⟩)) hb
      · have pe : rm_p R e = true := by
          cases z : rm_p R e
          · exact absurd z q
          · rfl
        obtain ⟨r1, r2, r3⟩ := Roe P hP
        have sb := rm_sz_b (fun x => P 68 (x : Int))
        refine c_stallsFor (n := rm_n R) (Y := S.1) (by omega) r1 hI.W hI.R r2 r3 n23 (by omega) (fun P1 hP1 => zi ⟨by omega, ?_⟩)
        have lb := f_bits_lt (fun s => f_takes S.1 (s : Int) (e : Int)) (rm_n R)
        have lt23 : 2 ^ rm_n R ≤ 2 ^ 23 := Nat.pow_le_pow_right (by omega) n23
        have ltt := f_bits_test (fun s => f_takes S.1 (s : Int) (e : Int)) (rm_n R)
        obtain ⟨le, ele⟩ : ∃ le, f_bits (fun s => f_takes S.1 (s : Int) (e : Int)) (rm_n R) = le := ⟨_, rfl⟩
        rw [ele] at lb ltt ⊢
        obtain ⟨P2, eP2⟩ : ∃ P2, zU (zU P1 67 (e : Int) (le : Int)) 62 12 0 = P2 := ⟨_, rfl⟩
        have hP2 : zEro P2 μ := by rw [← eP2]; exact (((zEro.q hP1).trans hP).u (by omega)).s (by omega)
        have p68 : P2 68 = P 68 := by rw [← eP2, zU_off 68 (by omega), zU_off 68 (by omega), hP1 68 (by omega)]
        have noth : ¬ km_h R (fun _ => true) M e := fun z => by
          obtain ⟨s, s1, s2, s3⟩ := z
          rcases hIe.1.1 s s1 s2 with y | ⟨x, _, x2, x3, _⟩
          · omega
          · have := x3.1.2
            omega
        have hPe : ∀ x, rm_Pe R 0 (e + 1) x ↔ (rm_Pe R 0 e x ∨ x = e) := fun x => by
          constructor
          · intro z
            by_cases y : x = e
            · exact Or.inr y
            · exact Or.inl ⟨⟨by omega, by have := z.1.2; omega⟩, z.2⟩
          · intro z
            rcases z with z | z
            · exact ⟨⟨by omega, by have := z.1.2; omega⟩, z.2⟩
            · rw [z]
              exact ⟨⟨by omega, by omega⟩, pe⟩
        have ok2 : sk_ok P2 R (fun _ => true) (rm_Pe R 0 (e + 1)) M 0 0 := by
          refine ⟨fun x hx px => ?_, ⟨by rw [← eP2, zU_eq]; rfl, by omega⟩, ?_, fun s hs => ?_⟩
          · rw [← eP2, zU_off 67 (by omega)]
            by_cases z : x = e
            · exact ⟨le, by rw [z, zU_eq], by omega, fun s => by rw [ltt s, z, aR]⟩
            · rw [zU_ne (by omega), hP1 67 (by omega)]
              exact o1 x hx (((hPe x).1 px).resolve_right z)
          · rw [← eP2, zU_ne (by omega), zU_off 62 (by omega), hP1 62 (by omega)]
            exact o3
          · rw [← eP2, zU_off 69 (by omega), zU_off 69 (by omega), hP1 69 (by omega)]
            exact o4 s hs
        rw [eP2]
        have h14' : P2 62 14 = (D : Int) := by rw [← eP2, zU_ne (by omega), zU_off 62 (by omega), hP1 62 (by omega)]; exact h14
        have := c_canSeat (g := g) (R := R) (T := fun _ => true) (Pd := rm_Pe R 0 e) (Pl := rm_Pe R 0 (e + 1)) (M := M) (fd := 0) n23 hIe.1 (fun x hx => (hPe x).2 (Or.inl hx)) 12 (d - 1) P2 0 e [] (zBz (fun μ4 => zT g d mX0_mostSeated K 30 [some (.inr (.inr ((0, 0), 62))), some (.inl (D : Int)), some (.inl (zw (rm_sz (fun x => P 68 (x : Int)) + 1))), some (.inl (zw ((e : Int) + 1)))] [] μ4) (fun μ4 => zT g d mX0_mostSeated K 30 [some (.inr (.inr ((0, 0), 62))), some (.inl (D : Int)), some (.inl (rm_sz (fun x => P 68 (x : Int)))), some (.inl (zw ((e : Int) + 1)))] [] μ4)) (by simp) (by omega) ok2 (by omega) ((hPe e).2 (Or.inr rfl)) ⟨List.nodup_nil, fun x hx => by simp at hx, by simp, fun s s1 s2 _ => ⟨by simp, fun z => noth ⟨s, s1, s2, z⟩⟩⟩ (fun P3 M3 k3 sn3 hP3 ok3 hs3 hg3 => zb1 ?_) (fun P3 sn3 hP3 e683 e693 ok3 hf3 => zb0 ?_)
        · exact this
        · rw [zA_0] at hs3 hg3
          rw [p68] at hg3
          obtain ⟨n1, n2, _⟩ := km_in (Pd' := rm_Pe R 0 (e + 1)) hIe (by omega) noth hPe hs3
          have b3 := km_g_b hb hg3
          rw [zwi (x := rm_sz (fun x => P 68 (x : Int)) + 1) (by omega) (by omega), zw_suc (by omega), ← km_sz_in (by omega) hb b3 n2 noth]
          exact ih (e + 1) P3 M3 sn3 Z (by omega) ((zEro.f (zEfl.e hP3)).trans hP2) (by rw [hP3.2 14 (by omega)]; exact h14') ⟨ok3.1, Or.inl ok3.2.1, ok3.2.2.1, ok3.2.2.2⟩ n1 b3
        · rw [zA_0] at hf3
          rw [zw_suc (by omega)]
          have e68 : (fun x : Nat => P 68 (x : Int)) = fun x : Nat => P3 68 (x : Int) := by rw [e683, p68]
          rw [e68] at hb ⊢
          exact ih (e + 1) P3 M sn3 _ (by omega) ((zEro.f (zEfl.e hP3)).trans hP2) (by rw [hP3.2 14 (by omega)]; exact h14') ⟨ok3.1, Or.inl ok3.2.1, ok3.2.2.1, ok3.2.2.2⟩ (km_out hIe hPe hf3) hb
  refine sX0_mostSeated ⟨by omega, c_fill (m := 23) (by omega) (fun P1 hP1 h69 => zn (c_fill (m := 12) (by omega) (fun P2 hP2 h68 => zn ?_)))⟩
  obtain ⟨P3, eP3⟩ : ∃ P3, zU (zU P2 62 13 0) 62 14 (D : Int) = P3 := ⟨_, rfl⟩
  rw [eP3]
  have hP3 : zEro P3 μ := by
    rw [← eP3]
    refine ⟨fun j hj => by rw [zU_off j (by omega), zU_off j (by omega), hP2 j (by omega), hP1 j (by omega)], fun i hi => by rw [zU_ne (by omega), zU_ne (by omega), hP2 62 (by omega), hP1 62 (by omega)]⟩
  have g68 : ∀ x : Nat, x < 12 → P3 68 (x : Int) = -1 := fun x hx => by rw [← eP3, zU_off 68 (by omega), zU_off 68 (by omega)]; exact h68 _ (by omega)
  have g69 : ∀ s : Nat, s < rm_n R → P3 69 (s : Int) = -1 := fun s hs => by rw [← eP3, zU_off 69 (by omega), zU_off 69 (by omega), hP2 69 (by omega)]; exact h69 _ (by omega)
  have nh : ∀ x : Nat, ¬ km_h R (fun _ => true) (fun _ => -1) x := fun x z => by
    obtain ⟨s, _, _, s3⟩ := z
    have s3 : (-1 : Int) = (x : Int) := s3
    omega
  have zero : rm_sz (fun x : Nat => P3 68 (x : Int)) = 0 := su_0 12 0 (fun x _ hx => by
    show rm_i (P3 68 (x : Int)) = 0
    rw [g68 x (by omega)]
    rfl)
  have := seat 12 0 P3 (fun _ => -1) 0 (fun _ => False) (by omega) hP3 (by rw [← eP3, zU_eq]) ⟨fun x hx px => by have := px.1; omega, Or.inr (fun x hx => by omega), ⟨by rw [← eP3, zU_ne (by omega), zU_eq]; rfl, by omega, fun s _ => by rw [Nat.zero_testBit]; rfl⟩, g69⟩ ⟨⟨fun s _ _ => Or.inl rfl, fun s t _ _ _ _ sn => absurd rfl sn⟩, fun _ _ _ z => z.elim, fun x hx px => by have := px.1; omega⟩ (fun x hx => Or.inl ⟨g68 x hx, nh x⟩)
  rw [zero] at this
  exact this
theorem C_room (hd : 22 ≤ d) (hx : zI32 x) (hC : cS μ S) (hI : iS nn S) (h : ∀ μ', zEc μ' μ → cS μ' (o_room S x).2 → K (some (.inl (o_room S x).1)) μ') : zCall g d 135 [.inr (.inr ((0, 11), 0)), .inl x] μ K := by
  have w := hI.env
  have ev := hC.env
  unfold o_room at h
  obtain ⟨E, eE⟩ : ∃ E : Nat, S.1 13 3 = (E : Int) := ⟨(S.1 13 3).toNat, by omega⟩
  rw [eE, show ((E : Int)).toNat = E from by omega] at h
  have E12 : E ≤ 12 := by omega
  have p12 : 2 ^ E ≤ 2 ^ 12 := Nat.pow_le_pow_right (by omega) E12
  have z := zushr_0 hx E12
  have m5 : μ 5 0 = (E : Int) := by rw [ev.2.2.2.1, eE]
  refine sX11_room ⟨fun q => ?_, fun q => ⟨by omega, sX3_hasOthers ⟨fun q2 => zb0 ?_, fun q2 => zb1 ?_⟩⟩⟩
  · rw [if_neg (by omega)] at h
    exact h μ (zEc.refl μ) hC
  · rw [m5] at q2
    have b := z.1 q2
    obtain ⟨D, rfl⟩ : ∃ D : Nat, x = (D : Int) := ⟨x.toNat, by omega⟩
    rw [show ((D : Int)).toNat = D from by omega] at h
    refine c_inStalls (zi ?_)
    have il : f_ins S.1 < 4096 := f_ins_lt
    rw [hC.1.1, zand_nat (by omega) (by omega)]
    refine ⟨fun q3 => ?_, fun q3 => ?_⟩
    · rw [if_pos ⟨by omega, b.2, by omega⟩] at h
      exact c_mostSeated (E := E) (by omega) (by omega) hC hI eE (by omega) (fun μ' e1 e2 => zi (h μ' e1 e2))
    · rw [if_neg (fun y => q3 (by omega))] at h
      exact h μ (zEc.refl μ) hC
  · rw [m5] at q2
    rw [if_neg (fun y => q2 (z.2 ⟨by omega, y.2.1⟩))] at h
    exact h μ (zEc.refl μ) hC
end
