-- needs a4
/-! room: the least row, and the reference's call -/
abbrev rm_c (R : zRm) (k : Nat) (T : Nat → Bool) (s : Nat) : Prop := T s = true ∧ rm_a R (11 - k) s = true ∧ 1 + rm_nu R k (rm_u T s) = rm_nu R (k + 1) T
def rm_f (R : zRm) (k : Nat) (T : Nat → Bool) : Int := z_lp (fun s q => if ¬ q = -1 then q else if rm_c R k T s then (s : Int) else q) (rm_n R) 0 (-1)
def rm_row (R : zRm) : Nat → (Nat → Bool) → List Int
  | 0, _ => []
  | k + 1, T => if rm_p R (11 - k) = false then rm_row R k T else if rm_nu R (k + 1) T ≤ rm_nu R k T then -1 :: rm_row R k T else rm_f R k T :: rm_row R k (rm_u T (rm_f R k T).toNat)
theorem z_1st {c : Nat → Prop} [DecidablePred c] {f : Nat} (hf : c f) (hl : ∀ s, s < f → ¬ c s) : ∀ m : Nat, (m ≤ f → z_lp (fun s (q : Int) => if ¬ q = -1 then q else if c s then (s : Int) else q) m 0 (-1) = -1) ∧ (f < m → z_lp (fun s (q : Int) => if ¬ q = -1 then q else if c s then (s : Int) else q) m 0 (-1) = (f : Int))
  | 0 => ⟨fun _ => rfl, fun h => by omega⟩
  | m + 1 => by
    obtain ⟨h1, h2⟩ := z_1st hf hl m
    rw [z_lp_snoc, Nat.zero_add]
    refine ⟨fun h => ?_, fun h => ?_⟩
    · rw [h1 (by omega), if_neg (by omega), if_neg (hl m (by omega))]
    · by_cases q : f = m
      · rw [h1 (by omega), if_neg (by omega), ← q, if_pos hf]
      · rw [h2 (by omega), if_pos (by omega)]
theorem rm_f_eq {R : zRm} {k f : Nat} {T : Nat → Bool} (hn : f < rm_n R) (hf : rm_c R k T f) (hl : ∀ s, s < f → ¬ rm_c R k T s) : rm_f R k T = (f : Int) := (z_1st (c := fun s => rm_c R k T s) hf hl (rm_n R)).2 hn
theorem rm_nu_p {R : zRm} {k : Nat} {T : Nat → Bool} (hp : rm_p R (11 - k) = true) : rm_nu R k T ≤ rm_nu R (k + 1) T ∧ (rm_nu R (k + 1) T ≤ rm_nu R k T ∨ ∃ s, s < rm_n R ∧ rm_c R k T s) := by
  have e : rm_nu R (k + 1) T = z_lp (fun s v => if T s = true ∧ rm_a R (11 - k) s = true then max v (1 + rm_nu R k (rm_u T s)) else v) (rm_n R) 0 (rm_nu R k T) := by rw [rm_nu, if_neg (by rw [hp]; simp)]
  obtain ⟨m1, m2, m3⟩ := z_mxg (good := fun s => T s = true ∧ rm_a R (11 - k) s = true) (f := fun s => 1 + rm_nu R k (rm_u T s)) (v := rm_nu R k T) (rm_n R)
  rw [← e] at m1 m2 m3
  refine ⟨m1, ?_⟩
  rcases m3 with m3 | ⟨s, s1, s2, s3⟩
  · exact Or.inl (by omega)
  · exact Or.inr ⟨s, s1, s2.1, s2.2, s3.symm⟩
theorem rm_nu_n {R : zRm} {k : Nat} {T : Nat → Bool} (hp : rm_p R (11 - k) = false) : rm_nu R (k + 1) T = rm_nu R k T ∧ rm_row R (k + 1) T = rm_row R k T := by
  constructor
  · rw [rm_nu, if_pos hp]
  · rw [rm_row, if_pos hp]
theorem rm_nu_b (R : zRm) (k : Nat) (T : Nat → Bool) (hk : k ≤ 12) : 0 ≤ rm_nu R k T ∧ rm_nu R k T ≤ 12 := by
  obtain ⟨_, a, _, e⟩ := rm_nu_max R k T hk
  rw [← e]
  exact rm_sz_b a
theorem rm_row_n {R : zRm} : ∀ (k : Nat) (T : Nat → Bool), k ≤ 12 → (∀ x, 12 - k ≤ x → rm_p R x = false) → rm_row R k T = []
  | 0, _, _, _ => rfl
  | k + 1, T, hk, h => by
    rw [(rm_nu_n (h (11 - k) (by omega))).2]
    exact rm_row_n k T (by omega) (fun x hx => h x (by omega))
def rm_R (Y : zM) (D : Nat) : zRm := (fun x s => f_takes Y (s : Int) (x : Int), (Y 13 0).toNat, fun x => D.testBit x)
def o_room (S : zS) (x : Int) : Int × zS := if 0 < x ∧ x < ((2 ^ (S.1 13 3).toNat : Nat) : Int) ∧ x.toNat &&& f_ins S.1 = 0 then (rm_nu (rm_R S.1 x.toNat) 12 (fun _ => true), sR S (rm_row (rm_R S.1 x.toNat) 12 (fun _ => true))) else (-1, S)
theorem iS.r {nn : Int} {S : zS} {r : List Int} (h : iS nn S) (hr : r.length ≤ 12) : iS nn (sR S r) := ⟨h.1, h.2.1, h.2.2.1, hr, h.2.2.2.2⟩
/-- they are on the road -/
theorem rm_rd {Y : zM} {D x : Nat} (h : D &&& f_ins Y = 0) (hD : D < 4096) (hx : D.testBit x = true) : Y 2 (x : Int) = -1 := by
  by_cases q : Y 2 (x : Int) = -1
  · exact q
  · have x12 : x < 12 := by
      rcases Nat.lt_or_ge x 12 with z | z
      · exact z
      · rw [Nat.testBit_lt_two_pow (Nat.lt_of_lt_of_le hD (Nat.pow_le_pow_right (n := 2) (by omega) z))] at hx
        cases hx
    have : (D &&& f_ins Y).testBit x = true := by rw [Nat.testBit_and, hx, (f_ins_t x).2 ⟨x12, q⟩]; rfl
    rw [h, Nat.zero_testBit] at this
    cases this
section
variable {g : zG} {d : Nat} {K : Option zV → zM → Prop} {μ : zM} {nn x : Int} {S : zS}
theorem M_room (hd : 340 ≤ d) (hC : mS μ S) (hI : iS nn S) (h : ∀ μ', zEd μ' μ → mS μ' (o_room S x).2 → K (some (.inl (o_room S x).1)) μ') : zCall g d 239 [.inr (.inr ((0, 12), 119)), .inl x] μ K := by
  have w := hI.env
  have hC0 : mS (zU μ 119 33 0) S := hC.thr
  have hE0 : zEd (zU μ 119 33 0) μ := (zEd.refl μ).u (by omega)
  unfold o_room at h
  obtain ⟨E, eE⟩ : ∃ E : Nat, S.1 13 3 = (E : Int) := ⟨(S.1 13 3).toNat, by omega⟩
  rw [eE, show ((E : Int)).toNat = E from by omega] at h
  have E12 : E ≤ 12 := by omega
  have p12 : 2 ^ E ≤ 2 ^ 12 := Nat.pow_le_pow_right (by omega) E12
  have ev0 := hC.env
  refine sX12_room ⟨fun q => ?_, fun q => ?_⟩
  · rw [if_neg (by omega)] at h
    exact h _ hE0 hC0
  rw [ev0.2.2.2.1, eE, zshl_1 (by omega), show ((E : Int)).toNat = E from by omega]
  refine ⟨fun q2 => ?_, fun q2 => ⟨by omega, ?_⟩⟩
  · rw [if_neg (by omega)] at h
    exact h _ hE0 hC0
  obtain ⟨D, rfl⟩ : ∃ D : Nat, x = (D : Int) := ⟨x.toNat, by omega⟩
  rw [show ((D : Int)).toNat = D from by omega] at h
  refine m_inStalls (co := S.1 14) (cn := S.1 15 0) (hC0.W hI) (zi ?_)
  have il : f_ins S.1 < 4096 := f_ins_lt
  rw [hC0.1.1, zand_nat (by omega) (by omega)]
  refine ⟨fun q3 => ?_, fun q3 => ?_⟩
  rotate_left
  · rw [if_neg (fun z => q3 (by omega))] at h
    exact h _ hE0 hC0
  have q3 : D &&& f_ins S.1 = 0 := by omega
  rw [if_pos ⟨q, q2, q3⟩] at h
  obtain ⟨R, hR⟩ : ∃ R, rm_R S.1 D = R := ⟨_, rfl⟩
  rw [hR] at h
  have nR : S.1 13 0 = (rm_n R : Int) := by
    rw [← hR]
    show S.1 13 0 = ((S.1 13 0).toNat : Int)
    omega
  have aR : ∀ x s : Nat, rm_a R x s = f_takes S.1 (s : Int) (x : Int) := fun x s => by rw [← hR]; rfl
  have pR : ∀ x : Nat, rm_p R x = D.testBit x := fun x => by rw [← hR]; rfl
  have road : ∀ x : Nat, rm_p R x = true → S.1 2 (x : Int) = -1 := fun x hx => rm_rd q3 (by omega) (by rw [← pR]; exact hx)
  have pE : ∀ x, E ≤ x → rm_p R x = false := fun x hx => by rw [pR]; exact Nat.testBit_lt_two_pow (Nat.lt_of_lt_of_le (by omega) (Nat.pow_le_pow_right (n := 2) (by omega) hx))
  have n23 : 4 ≤ rm_n R ∧ rm_n R ≤ 23 := by omega
  obtain ⟨all, eall⟩ : ∃ all, rm_nu R 12 (fun _ => true) = all := ⟨_, rfl⟩
  obtain ⟨row, erow⟩ : ∃ row, rm_row R 12 (fun _ => true) = row := ⟨_, rfl⟩
  rw [eall, erow] at h
  have rmE : ∀ {P P' : zM}, zErm P' P → zEd P μ → zEd P' μ := fun e e' j hj => by rw [e.1 j (by omega)]; exact e' j hj
  -- the engines, one after another
  have engs : ∀ (k e : Nat) (P : zM) (M : Nat → Int) (T : Nat → Bool) (r : List Int), e + k = E → zEd P μ → mS P (sR S r) → mR P r → r.length ≤ e → (∀ s : Nat, s < rm_n R → P 149 (s : Int) = M s) → (∀ s : Nat, s < rm_n R → M s = -1 ∨ ∃ x : Nat, x < 12 ∧ M s = (x : Int) ∧ rm_p R x = true) → (∀ s : Nat, s < rm_n R → T s = decide (M s = -1 ∨ (e : Int) ≤ M s)) → row = r ++ rm_row R (12 - e) T → zT g d mX12_room K 96 [some (.inr (.inr ((0, 12), 119))), some (.inl (D : Int)), some (.inl all), some (.inl (rm_nu R (12 - e) T)), some (.inl (e : Int)), none, none, none] [] P := by
    intro k
    induction k with
    | zero =>
      intro e P M T r he hP hCP hrP hl h149 hM hT hrow
      have ev := hCP.env
      have e6 : P 119 6 = S.1 13 3 := ev.2.2.2.1
      refine sX12_room_96 ⟨fun _ => ?_, fun q => by omega⟩
      rw [rm_row_n (12 - e) T (by omega) (fun x hx => pE x (by omega)), List.append_nil] at hrow
      exact h P hP (by rw [hrow]; exact hCP)
    | succ k ih =>
      intro e P M T r he hP hCP hrP hl h149 hM hT hrow
      have ev := hCP.env
      have e6 : P 119 6 = S.1 13 3 := ev.2.2.2.1
      have e0 : P 119 0 = S.1 13 0 := ev.1
      have e11 : 11 - (11 - e) = e := by omega
      have k1 : 12 - e = (11 - e) + 1 := by omega
      have k2 : 12 - (e + 1) = 11 - e := by omega
      refine sX12_room_96 ⟨fun q => by omega, fun _ => ?_⟩
      rw [z_tst0 (by omega) (by omega), show ((e : Int)).toNat = e from by omega, ← pR e]
      refine ⟨fun q4 => ?_, fun q4 => ?_⟩
      rotate_left
      · rw [zw_suc (by omega)]
        have nn0 := rm_nu_n (R := R) (k := 11 - e) (T := T) (by rw [e11]; exact q4)
        rw [k1, nn0.1, ← k2]
        refine ih (e + 1) P M T r (by omega) hP hCP hrP (by omega) h149 hM (fun s hs => ?_) (by rw [hrow, k1, nn0.2, k2])
        rw [hT s hs]
        have : ¬ M s = (e : Int) := fun z => by
          rcases hM s hs with y | ⟨x', _, y2, y3⟩
          · omega
          · obtain rfl : x' = e := by omega
            rw [q4] at y3
            cases y3
        by_cases z : M s = -1 ∨ (e : Int) ≤ M s
        · rw [decide_eq_true z, decide_eq_true (by omega)]
        · rw [decide_eq_false z, decide_eq_false (by omega)]
      have pe : rm_p R e = true := by
        cases z : rm_p R e
        · exact absurd z q4
        · rfl
      obtain ⟨np1, np2⟩ := rm_nu_p (R := R) (k := 11 - e) (T := T) (by rw [e11]; exact pe)
      have nb := rm_nu_b R (12 - e) T (by omega)
      have nb2 := rm_nu_b R (11 - e) T (by omega)
      have hIr : iS nn (sR S r) := hI.r (by omega)
      -- the row's step
      have rowN : rm_nu R (12 - e) T ≤ rm_nu R (11 - e) T → row = (r ++ [-1]) ++ rm_row R (12 - (e + 1)) T := fun z => by
        rw [hrow, k1, rm_row, if_neg (by rw [e11, pe]; simp), if_pos (by rw [← k1]; exact z), k2, List.append_assoc]
        rfl
      have rowS : ∀ f : Nat, f < rm_n R → rm_c R (11 - e) T f → (∀ s, s < f → ¬ rm_c R (11 - e) T s) → ¬ rm_nu R (12 - e) T ≤ rm_nu R (11 - e) T → row = (r ++ [(f : Int)]) ++ rm_row R (12 - (e + 1)) (rm_u T f) := fun f f1 f2 f3 z => by
        rw [hrow, k1, rm_row, if_neg (by rw [e11, pe]; simp), if_neg (by rw [← k1]; exact z), rm_f_eq f1 f2 f3, k2, List.append_assoc, show ((f : Int)).toNat = f from by omega]
        rfl
      -- no stall so far
      have tryS : ¬ rm_nu R (12 - e) T ≤ rm_nu R (11 - e) T → ∀ (k3 j : Nat) (P3 : zM) (M3 : Nat → Int), j + k3 = rm_n R → zEd P3 μ → mS P3 (sR S r) → mR P3 r → (∀ s : Nat, s < rm_n R → P3 149 (s : Int) = M3 s) → (∀ s : Nat, s < rm_n R → T s = false → M3 s = M s) → (∀ s : Nat, s < rm_n R → T s = true → M3 s = -1 ∨ ∃ x : Nat, x < 12 ∧ M3 s = (x : Int) ∧ e + 1 ≤ x ∧ rm_p R x = true) → (∀ s, s < j → ¬ rm_c R (11 - e) T s) → zT g d mX12_room K 172 [some (.inr (.inr ((0, 12), 119))), some (.inl (D : Int)), some (.inl all), some (.inl (rm_nu R (12 - e) T)), some (.inl (e : Int)), some (.inl (-1)), some (.inl (j : Int)), none] [] P3 := by
        intro hlt k3
        induction k3 with
        | zero =>
          intro j P3 M3 hj hP3 hC3 hr3 h3 hF3 hT3 hno
          obtain ⟨s, s1, s2⟩ := np2.resolve_left (fun z => hlt (by rw [k1]; exact z))
          exact absurd s2 (hno s (by omega))
        | succ k3 ih3 =>
          intro j P3 M3 hj hP3 hC3 hr3 h3 hF3 hT3 hno
          have jn : j < rm_n R := by omega
          have ev3 : P3 119 0 = S.1 13 0 := hC3.env.1
          refine sX12_room_172 ⟨fun q => by omega, fun _ => ⟨fun q => absurd rfl q, fun _ => ?_⟩⟩
          -- those above go out
          have clr : ∀ (k4 i : Nat) (P4 : zM), i + k4 = rm_n R → zErm P4 P3 → (∀ s : Nat, s < rm_n R → P4 149 (s : Int) = if s < i ∧ (e : Int) < M3 s then -1 else M3 s) → zT g d mX12_room K 190 [some (.inr (.inr ((0, 12), 119))), some (.inl (D : Int)), some (.inl all), some (.inl (rm_nu R (12 - e) T)), some (.inl (e : Int)), some (.inl (-1)), some (.inl (j : Int)), some (.inl (i : Int))] [] P4 := by
            intro k4
            induction k4 with
            | succ k4 ih4 =>
              intro i P4 hi hP4 h4
              have ev4 : P4 119 0 = S.1 13 0 := (hC3.rm hP4).env.1
              have p4 := h4 i (by omega)
              rw [if_neg (by omega)] at p4
              refine sX12_room_190 ⟨fun q => by omega, fun _ => ⟨by omega, fun q => ?_, fun q => ?_⟩⟩
              · rw [zw_suc (by omega)]
                refine ih4 (i + 1) P4 (by omega) hP4 (fun s hs => ?_)
                rw [h4 s hs]
                by_cases z : s = i
                · rw [z, if_neg (by omega), if_neg (by omega)]
                · by_cases y : s < i ∧ (e : Int) < M3 s
                  · rw [if_pos y, if_pos (by omega)]
                  · rw [if_neg y, if_neg (by omega)]
              · rw [zw_suc (by omega)]
                refine ih4 (i + 1) _ (by omega) (hP4.u (by omega)) (fun s hs => ?_)
                by_cases z : s = i
                · rw [z, zU_eq, if_pos (by omega)]
                · rw [zU_ne (by omega), h4 s hs]
                  by_cases y : s < i ∧ (e : Int) < M3 s
                  · rw [if_pos y, if_pos (by omega)]
                  · rw [if_neg y, if_neg (by omega)]
            | zero =>
              intro i P4 hi hP4 h4
              obtain rfl : i = rm_n R := by omega
              have hC4 := hC3.rm hP4
              have ev4 : P4 119 0 = S.1 13 0 := hC4.env.1
              obtain ⟨M4, eM4⟩ : ∃ M4 : Nat → Int, (fun s => if s < rm_n R ∧ (e : Int) < M3 s then -1 else M3 s) = M4 := ⟨_, rfl⟩
              have m4 : ∀ s : Nat, s < rm_n R → P4 149 (s : Int) = M4 s := fun s hs => by rw [h4 s hs, ← eM4]
              have mF : ∀ s : Nat, s < rm_n R → T s = false → M4 s = M s ∧ ¬ M s = -1 ∧ M s < (e : Int) := fun s hs ht => by
                have t0 := hT s hs
                rw [ht] at t0
                have t1 := of_decide_eq_false t0.symm
                have := hF3 s hs ht
                refine ⟨?_, by omega, by omega⟩
                rw [← eM4]
                show (if s < rm_n R ∧ (e : Int) < M3 s then -1 else M3 s) = M s
                rw [if_neg (by omega)]
                exact this
              have mT : ∀ s : Nat, s < rm_n R → T s = true → M4 s = -1 := fun s hs ht => by
                rw [← eM4]
                show (if s < rm_n R ∧ (e : Int) < M3 s then -1 else M3 s) = -1
                rcases hT3 s hs ht with y | ⟨x', _, y2, y3, _⟩
                · rw [if_neg (by omega)]
                  exact y
                · rw [if_pos ⟨hs, by omega⟩]
              have hP4d : zEd P4 μ := rmE hP4 hP3
              have hr4 : mR P4 r := ⟨by rw [hP4.2 32 (by omega)]; exact hr3.1, by rw [hP4.1 140 (by omega)]; exact hr3.2⟩
              have next : ∀ (P5 : zM) (M5 : Nat → Int), zErm P5 P4 → (∀ s : Nat, s < rm_n R → P5 149 (s : Int) = M5 s) → (∀ s : Nat, s < rm_n R → T s = false → M5 s = M s) → (∀ s : Nat, s < rm_n R → T s = true → M5 s = -1 ∨ ∃ x : Nat, x < 12 ∧ M5 s = (x : Int) ∧ e + 1 ≤ x ∧ rm_p R x = true) → ¬ rm_c R (11 - e) T j → zT g d mX12_room K 172 [some (.inr (.inr ((0, 12), 119))), some (.inl (D : Int)), some (.inl all), some (.inl (rm_nu R (12 - e) T)), some (.inl (e : Int)), some (.inl (-1)), some (.inl (zw ((j : Int) + 1))), none] [] P5 := by
                intro P5 M5 hP5 h5 hF5 hT5 hnc
                rw [zw_suc (by omega)]
                refine ih3 (j + 1) P5 M5 (by omega) (rmE hP5 hP4d) (hC4.rm hP5) ⟨by rw [hP5.2 32 (by omega)]; exact hr4.1, by rw [hP5.1 140 (by omega)]; exact hr4.2⟩ h5 hF5 hT5 (fun s hs => ?_)
                by_cases z : s = j
                · rw [z]
                  exact hnc
                · exact hno s (by omega)
              refine sX12_room_190 ⟨fun _ => ⟨by omega, ?_⟩, fun q => by omega⟩
              rw [m4 j jn]
              refine ⟨fun q5 => next P4 M4 (zErm.refl P4) m4 (fun s hs ht => (mF s hs ht).1) (fun s hs ht => Or.inl (mT s hs ht)) (fun z => q5 (mT j jn z.1)), fun q5 => ⟨by omega, ?_⟩⟩
              have Tj : T j = true := by
                cases z : T j
                · have := mF j jn z
                  omega
                · rfl
              have eE2 : e < E := by
                rcases Nat.lt_or_ge e E with z | z
                · exact z
                · rw [pE e z] at pe
                  cases pe
              have p130 : P4 130 (e : Int) = -1 := by rw [(hC4.en (e := (e : Int)) ⟨by omega, by omega, by show (e : Int) < S.1 13 3; omega⟩).1]; exact road e pe
              refine m_isTaking (co := S.1 14) (cn := S.1 15 0) (by omega) (hC4.W hIr) hC4.1.2.1 (by rw [hC4.env.2.2.2.1]; show 0 ≤ (e : Int) ∧ (e : Int) < S.1 13 3; omega) (by omega) (fun P5 hP5 _ q6 => zb1 ?_) (fun P5 hP5 q6 => zb0 ?_)
              · have v4 : vM P4 (S.1 14) (S.1 15 0) = S.1 := hC4.1.1
                rw [v4] at q6
                have hP5' : zErm P5 P4 := zErm.m hP5
                have adj : rm_a R e j = true := by rw [aR]; exact q6
                obtain ⟨M6, eM6⟩ : ∃ M6 : Nat → Int, (fun s => if s = j then (e : Int) else M4 s) = M6 := ⟨_, rfl⟩
                have v6 : M6 j = (e : Int) := by rw [← eM6]; exact if_pos rfl
                have x6 : ∀ s, ¬ s = j → M6 s = M4 s := fun s z => by rw [← eM6]; exact if_neg z
                have hU : zErm (zU P5 149 (j : Int) (e : Int)) P4 := hP5'.u (by omega)
                refine m_mostIn (R := R) (T := rm_u T j) (M0 := M6) (lo := e + 1) (k0 := 11 - e) (E := E) (S := sR S r) (by omega) (hC4.rm hU) hIr nR eE aR pR (by omega) road (by omega) (by omega) (by omega) (fun s hs => ?_) (fun s hs => ?_) (fun s hs => ?_) (fun P7 M7 hP7 h7 hF7 hT7 => zi ?_)
                · by_cases z : s = j
                  · rw [z, zU_eq, v6]
                  · rw [zU_ne (by omega), hP5.1 149 (by omega), m4 s hs, x6 s z]
                · by_cases z : s = j
                  · rw [z, v6]
                    omega
                  · rw [x6 s z]
                    cases y : T s
                    · have := mF s hs y
                      have := hM s hs
                      rcases this with t | ⟨x', _, t2, _⟩ <;> omega
                    · rw [mT s hs y]
                      omega
                · show (if s = j then false else T s) = _
                  by_cases z : s = j
                  · rw [if_pos z, z, v6, decide_eq_false (by omega)]
                  · rw [if_neg z, x6 s z]
                    cases y : T s
                    · have := mF s hs y
                      rw [decide_eq_false (by omega)]
                    · rw [mT s hs y, decide_eq_true (Or.inl rfl)]
                · have hP7' : zErm P7 P4 := hP7.trans hU
                  have nb3 := rm_nu_b R (11 - e) (rm_u T j) (Nat.le_trans (Nat.sub_le 11 e) (by decide))
                  have f7 : ∀ s : Nat, s < rm_n R → T s = false → M7 s = M s := fun s hs y => by
                    have ne : ¬ s = j := fun z => by
                      rw [z, Tj] at y
                      cases y
                    rw [hF7 s hs (by show (if s = j then false else T s) = false; rw [if_neg ne]; exact y), x6 s ne]
                    exact (mF s hs y).1
                  have t7 : ∀ s : Nat, s < rm_n R → ¬ s = j → T s = true → M7 s = -1 ∨ ∃ x : Nat, x < 12 ∧ M7 s = (x : Int) ∧ e + 1 ≤ x ∧ rm_p R x = true := fun s hs ne y => hT7 s hs (by show (if s = j then false else T s) = true; rw [if_neg ne]; exact y)
                  have j7 : M7 j = (e : Int) := by
                    rw [hF7 j jn (by show (if j = j then false else T j) = false; exact if_pos rfl)]
                    exact v6
                  rw [zwi (x := rm_nu R (12 - e) T - 1) (by omega) (by omega)]
                  refine ⟨fun q7 => ?_, fun q7 => ?_⟩
                  · refine next _ (fun s => if s = j then -1 else M7 s) (hP7'.u (by omega)) (fun s hs => ?_) (fun s hs y => ?_) (fun s hs y => ?_) (fun z => ?_)
                    · by_cases z : s = j
                      · rw [z, zU_eq, if_pos rfl]
                      · rw [zU_ne (by omega), if_neg z]
                        exact h7 s hs
                    · show (if s = j then -1 else M7 s) = M s
                      have ne : ¬ s = j := fun z => by
                        rw [z, Tj] at y
                        cases y
                      rw [if_neg ne]
                      exact f7 s hs y
                    · by_cases z : s = j
                      · exact Or.inl (by show (if s = j then -1 else M7 s) = -1; exact if_pos z)
                      · have := t7 s hs z y
                        rw [show (if s = j then -1 else M7 s) = M7 s from if_neg z]
                        exact this
                    · have := z.2.2
                      rw [← k1] at this
                      omega
                  · -- found
                    have hc : rm_c R (11 - e) T j := ⟨Tj, by rw [e11]; exact adj, by rw [← k1]; omega⟩
                    have hCs := hC4.rm hP7'
                    have hr7 : mR P7 r := ⟨by rw [hP7'.2 32 (by omega)]; exact hr4.1, by rw [hP7'.1 140 (by omega)]; exact hr4.2⟩
                    have fin : zCall g (d - 1) 163 [.inr (.inr ((0, 12), 119)), .inl (j : Int)] P7 (zNn fun μ1 => zT g d mX12_room K 96 [some (.inr (.inr ((0, 12), 119))), some (.inl (D : Int)), some (.inl all), some (.inl (zw (rm_nu R (12 - e) T + (-1)))), some (.inl (zw ((e : Int) + 1))), none, none, none] [] μ1) := by
                      refine m_tellR hr7 (by omega) (fun P8 hP8 hr8 => zn ?_)
                      rw [zwi (x := rm_nu R (12 - e) T + (-1)) (by omega) (by omega), zw_suc (by omega), show rm_nu R (12 - e) T + (-1) = rm_nu R (12 - (e + 1)) (rm_u T j) from by rw [k2]; omega]
                      refine ih (e + 1) P8 M7 (rm_u T j) (r ++ [(j : Int)]) (by omega) (fun y hy => by rw [hP8.1 y (by omega)]; exact rmE hP7' hP4d y hy) (hCs.row (fun y _ hy => hP8.1 y hy) (fun y _ hy => hP8.2 y hy) hr8) hr8 (by simp; omega) (fun s hs => by rw [hP8.1 149 (by omega)]; exact h7 s hs) (fun s hs => ?_) (fun s hs => ?_) (rowS j jn hc hno hlt)
                      · by_cases z : s = j
                        · exact Or.inr ⟨e, by omega, by rw [z]; exact j7, pe⟩
                        · cases y : T s
                          · rw [f7 s hs y]
                            exact hM s hs
                          · rcases t7 s hs z y with t | ⟨x', t1, t2, _, t4⟩
                            · exact Or.inl t
                            · exact Or.inr ⟨x', t1, t2, t4⟩
                      · show (if s = j then false else T s) = _
                        by_cases z : s = j
                        · rw [if_pos z, z, j7, decide_eq_false (by omega)]
                        · rw [if_neg z]
                          cases y : T s
                          · have := mF s hs y
                            rw [f7 s hs y, decide_eq_false (by omega)]
                          · rcases t7 s hs z y with t | ⟨x', t1, t2, t3, _⟩
                            · rw [t, decide_eq_true (Or.inl rfl)]
                            · rw [decide_eq_true (by omega)]
                    refine sX12_room_172 ⟨fun _ => ⟨by omega, fin⟩, fun _ => ⟨fun _ => ⟨by omega, fin⟩, fun q => by omega⟩⟩
              · have v4 : vM P4 (S.1 14) (S.1 15 0) = S.1 := hC4.1.1
                rw [v4, p130] at q6
                refine next P5 M4 (zErm.m hP5) (fun s hs => by rw [hP5.1 149 (by omega)]; exact m4 s hs) (fun s hs ht => (mF s hs ht).1) (fun s hs ht => Or.inl (mT s hs ht)) (fun z => ?_)
                have z2 := z.2.1
                rw [e11, aR] at z2
                rcases q6 with q6 | q6
                · omega
                · rw [q6] at z2
                  cases z2
          exact clr (rm_n R) 0 P3 (by omega) (zErm.refl P3) (fun s hs => by rw [if_neg (by omega)]; exact h3 s hs)
      -- those from it on go out
      have clr : ∀ (k3 i : Nat) (P3 : zM), i + k3 = rm_n R → zErm P3 P → (∀ s : Nat, s < rm_n R → P3 149 (s : Int) = if s < i ∧ (e : Int) ≤ M s then -1 else M s) → zT g d mX12_room K 123 [some (.inr (.inr ((0, 12), 119))), some (.inl (D : Int)), some (.inl all), some (.inl (rm_nu R (12 - e) T)), some (.inl (e : Int)), some (.inl (-1)), some (.inl (i : Int)), none] [] P3 := by
        intro k3
        induction k3 with
        | succ k3 ih3 =>
          intro i P3 hi hP3 h3
          have ev3 : P3 119 0 = S.1 13 0 := (hCP.rm hP3).env.1
          have p3 := h3 i (by omega)
          rw [if_neg (by omega)] at p3
          refine sX12_room_123 ⟨fun q => by omega, fun _ => ⟨by omega, fun q => ?_, fun q => ?_⟩⟩
          · rw [zw_suc (by omega)]
            refine ih3 (i + 1) P3 (by omega) hP3 (fun s hs => ?_)
            rw [h3 s hs]
            by_cases z : s = i
            · rw [z, if_neg (by omega), if_neg (by omega)]
            · by_cases y : s < i ∧ (e : Int) ≤ M s
              · rw [if_pos y, if_pos (by omega)]
              · rw [if_neg y, if_neg (by omega)]
          · rw [zw_suc (by omega)]
            refine ih3 (i + 1) _ (by omega) (hP3.u (by omega)) (fun s hs => ?_)
            by_cases z : s = i
            · rw [z, zU_eq, if_pos (by omega)]
            · rw [zU_ne (by omega), h3 s hs]
              by_cases y : s < i ∧ (e : Int) ≤ M s
              · rw [if_pos y, if_pos (by omega)]
              · rw [if_neg y, if_neg (by omega)]
        | zero =>
          intro i P3 hi hP3 h3
          obtain rfl : i = rm_n R := by omega
          have hC3 := hCP.rm hP3
          have ev3 : P3 119 0 = S.1 13 0 := hC3.env.1
          obtain ⟨M1, eM1⟩ : ∃ M1 : Nat → Int, (fun s => if s < rm_n R ∧ (e : Int) ≤ M s then -1 else M s) = M1 := ⟨_, rfl⟩
          have m1F : ∀ s : Nat, s < rm_n R → T s = false → M1 s = M s ∧ ¬ M s = -1 ∧ M s < (e : Int) := fun s hs ht => by
            have t0 := hT s hs
            rw [ht] at t0
            have t1 := of_decide_eq_false t0.symm
            refine ⟨?_, by omega, by omega⟩
            rw [← eM1]
            show (if s < rm_n R ∧ (e : Int) ≤ M s then -1 else M s) = M s
            rw [if_neg (by omega)]
          have m1T : ∀ s : Nat, s < rm_n R → T s = true → M1 s = -1 := fun s hs ht => by
            have t0 := hT s hs
            rw [ht] at t0
            have t1 := of_decide_eq_true t0.symm
            rw [← eM1]
            show (if s < rm_n R ∧ (e : Int) ≤ M s then -1 else M s) = -1
            by_cases y : (e : Int) ≤ M s
            · rw [if_pos ⟨hs, y⟩]
            · rw [if_neg (fun z => y z.2)]
              omega
          refine sX12_room_123 ⟨fun _ => ⟨by omega, ?_⟩, fun q => by omega⟩
          refine m_mostIn (R := R) (T := T) (M0 := M1) (lo := e + 1) (k0 := 11 - e) (E := E) (S := sR S r) (by omega) hC3 hIr nR eE aR pR (by omega) road (by omega) (by omega) (by omega) (fun s hs => by rw [h3 s hs, ← eM1]) (fun s hs => ?_) (fun s hs => ?_) (fun P4 M4 hP4 h4 hF4 hT4 => zi ?_)
          · cases y : T s
            · have := m1F s hs y
              rcases hM s hs with t | ⟨x', _, t2, _⟩ <;> omega
            · rw [m1T s hs y]
              omega
          · cases y : T s
            · have := m1F s hs y
              rw [decide_eq_false (by omega)]
            · rw [m1T s hs y, decide_eq_true (Or.inl rfl)]
          · have hP4' : zErm P4 P := hP4.trans hP3
            have hC4 := hCP.rm hP4'
            have hr4 : mR P4 r := ⟨by rw [hP4'.2 32 (by omega)]; exact hrP.1, by rw [hP4'.1 140 (by omega)]; exact hrP.2⟩
            have f4 : ∀ s : Nat, s < rm_n R → T s = false → M4 s = M s := fun s hs y => by rw [hF4 s hs y]; exact (m1F s hs y).1
            refine ⟨fun q5 => m_tellR hr4 (by omega) (fun P5 hP5 hr5 => zn ?_), fun q5 => ?_⟩
            · rw [zw_suc (by omega), show rm_nu R (12 - e) T = rm_nu R (12 - (e + 1)) T from by rw [k2]; rw [k1] at q5 ⊢; omega]
              refine ih (e + 1) P5 M4 T (r ++ [-1]) (by omega) (fun y hy => by rw [hP5.1 y (by omega)]; exact rmE hP4' hP y hy) (hC4.row (fun y _ hy => hP5.1 y hy) (fun y _ hy => hP5.2 y hy) hr5) hr5 (by simp; omega) (fun s hs => by rw [hP5.1 149 (by omega)]; exact h4 s hs) (fun s hs => ?_) (fun s hs => ?_) (rowN q5)
              · cases y : T s
                · rw [f4 s hs y]
                  exact hM s hs
                · rcases hT4 s hs y with t | ⟨x', t1, t2, _, t4⟩
                  · exact Or.inl t
                  · exact Or.inr ⟨x', t1, t2, t4⟩
              · cases y : T s
                · have := m1F s hs y
                  rw [f4 s hs y, decide_eq_false (by omega)]
                · rcases hT4 s hs y with t | ⟨x', t1, t2, t3, _⟩
                  · rw [t, decide_eq_true (Or.inl rfl)]
                  · rw [decide_eq_true (by omega)]
            · exact tryS (by omega) (rm_n R) 0 P4 M4 (by omega) (rmE hP4' hP) hC4 hr4 h4 f4 hT4 (fun s hs => by omega)
      exact clr (rm_n R) 0 P (by omega) (zErm.refl P) (fun s hs => by rw [if_neg (by omega)]; exact h149 s hs)
  -- all out again, then the engines
  have out2 : ∀ (k i : Nat) (P : zM), i + k = rm_n R → zEd P μ → mS P (sR S []) → mR P [] → (∀ s : Nat, s < i → P 149 (s : Int) = -1) → zT g d mX12_room K 70 [some (.inr (.inr ((0, 12), 119))), some (.inl (D : Int)), some (.inl all), some (.inl all), some (.inl (i : Int)), none, none, none] [] P := by
    intro k
    induction k with
    | zero =>
      intro i P hi hP hCP hrP h149
      obtain rfl : i = rm_n R := by omega
      have ev : P 119 0 = S.1 13 0 := hCP.env.1
      refine sX12_room_70 ⟨fun _ => ?_, fun q => by omega⟩
      have := engs E 0 P (fun _ => -1) (fun _ => true) [] (by omega) hP hCP hrP (by simp) h149 (fun s _ => Or.inl rfl) (fun s _ => by rw [decide_eq_true (Or.inl rfl)]) (by rw [← erow]; rfl)
      rw [show 12 - 0 = 12 from rfl, eall] at this
      exact this
    | succ k ih =>
      intro i P hi hP hCP hrP h149
      have ev : P 119 0 = S.1 13 0 := hCP.env.1
      refine sX12_room_70 ⟨fun q => by omega, fun _ => ⟨by omega, ?_⟩⟩
      rw [zw_suc (by omega)]
      refine ih (i + 1) _ (by omega) (hP.u (by omega)) (hCP.rm ((zErm.refl P).u (by omega))) ⟨by rw [zU_off 119 (by omega)]; exact hrP.1, by rw [zU_off 140 (by omega)]; exact hrP.2⟩ (fun s hs => ?_)
      by_cases z : s = i
      · rw [z, zU_eq]
      · rw [zU_ne (by omega)]
        exact h149 s (by omega)
  have out1 : ∀ (k i : Nat) (P : zM), i + k = rm_n R → zErm P (zU μ 119 33 0) → (∀ s : Nat, s < i → P 149 (s : Int) = -1) → zT g d mX12_room K 32 [some (.inr (.inr ((0, 12), 119))), some (.inl (D : Int)), some (.inl (i : Int)), none, none, none, none, none] [] P := by
    intro k
    induction k with
    | zero =>
      intro i P hi hP h149
      obtain rfl : i = rm_n R := by omega
      have hCP := hC0.rm hP
      have ev : P 119 0 = S.1 13 0 := hCP.env.1
      refine sX12_room_32 ⟨fun _ => ⟨by omega, ?_⟩, fun q => by omega⟩
      refine m_mostIn (R := R) (T := fun _ => true) (M0 := fun _ => -1) (lo := 0) (k0 := 12) (E := E) (S := S) (by omega) hCP hI nR eE aR pR (by omega) road (by omega) (by omega) (by omega) h149 (fun s _ => by omega) (fun s _ => by rw [decide_eq_true (Or.inl rfl)]) (fun P2 M2 hP2 h2 _ _ => zi ?_)
      rw [eall]
      have hP2' : zErm P2 (zU μ 119 33 0) := hP2.trans hP
      have hC2 := hC0.rm hP2'
      have rr : mR (zU P2 119 32 0) [] := ⟨zU_eq, fun k v hk => by simp at hk⟩
      exact out2 (rm_n R) 0 _ (by omega) ((rmE hP2' hE0).u (by omega)) (hC2.row (fun y _ hy => zU_off y (by omega)) (fun y _ hy => zU_ne (by omega)) rr) rr (fun s hs => by omega)
    | succ k ih =>
      intro i P hi hP h149
      have ev : P 119 0 = S.1 13 0 := (hC0.rm hP).env.1
      refine sX12_room_32 ⟨fun q => by omega, fun _ => ⟨by omega, ?_⟩⟩
      rw [zw_suc (by omega)]
      refine ih (i + 1) _ (by omega) (hP.u (by omega)) (fun s hs => ?_)
      by_cases z : s = i
      · rw [z, zU_eq]
      · rw [zU_ne (by omega)]
        exact h149 s (by omega)
  exact out1 (rm_n R) 0 _ (by omega) (zErm.refl _) (fun s hs => by omega)
end
