-- needs a8
/-! room: the class's fixLeast -/
def zEfl (μ' μ : zM) : Prop := (∀ j, ¬ (j = 62 ∨ j = 68 ∨ j = 69) → μ' j = μ j) ∧ ∀ i, ¬ (i = 12 ∨ i = 13) → μ' 62 i = μ 62 i
theorem zEfl.trans {a b c : zM} (h : zEfl a b) (h' : zEfl b c) : zEfl a c := ⟨fun j hj => (h.1 j hj).trans (h'.1 j hj), fun i hi => (h.2 i hi).trans (h'.2 i hi)⟩
theorem zEfl.refl (μ : zM) : zEfl μ μ := ⟨fun _ _ => rfl, fun _ _ => rfl⟩
theorem zEfl.e {a b : zM} (h : zEse a b) : zEfl a b := ⟨h.1, fun i hi => h.2 i (by omega)⟩
theorem zEfl.u {a b : zM} {j : Nat} {i v : Int} (h : zEfl a b) (hj : j = 68 ∨ j = 69) : zEfl (zU a j i v) b := ⟨fun k hk => by rw [zU_off k (by omega)]; exact h.1 k hk, fun k hk => by rw [zU_off 62 (by omega)]; exact h.2 k hk⟩
theorem zEfl.s {a b : zM} {v : Int} (h : zEfl a b) : zEfl (zU a 62 13 v) b := ⟨fun k hk => by rw [zU_off k (by omega)]; exact h.1 k hk, fun k hk => by rw [zU_ne (by omega)]; exact h.2 k hk⟩
theorem km_v_c2 {R : zRm} {T T' : Nat → Bool} {Pd : Nat → Prop} {M M' : Nat → Int} (h : km_v R T Pd M) (e : ∀ s, s < rm_n R → T' s = true → T s = true ∧ M' s = M s) : km_v R T' Pd M' := by
  refine ⟨fun s s1 s2 => ?_, fun s t s1 t1 s2 t2 => ?_⟩
  · rw [(e s s1 s2).2]
    exact h.1 s s1 (e s s1 s2).1
  · rw [(e s s1 s2).2, (e t t1 t2).2]
    exact h.2 s t s1 t1 (e s s1 s2).1 (e t t1 t2).1
theorem rm_nu_u {R : zRm} {k s : Nat} {T : Nat → Bool} (hp : rm_p R (11 - k) = true) (hs : s < rm_n R) (h1 : T s = true) (h2 : rm_a R (11 - k) s = true) : 1 + rm_nu R k (rm_u T s) ≤ rm_nu R (k + 1) T := by
  have e : rm_nu R (k + 1) T = z_lp (fun s v => if T s = true ∧ rm_a R (11 - k) s = true then max v (1 + rm_nu R k (rm_u T s)) else v) (rm_n R) 0 (rm_nu R k T) := by rw [rm_nu, if_neg (by rw [hp]; simp)]
  rw [e]
  exact (z_mxg (good := fun s => T s = true ∧ rm_a R (11 - k) s = true) (f := fun s => 1 + rm_nu R k (rm_u T s)) (v := rm_nu R k T) (rm_n R)).2.1 s hs ⟨h1, h2⟩
/-- given, one being out -/
theorem rm_sz_g {u : Nat → Bool} {N N' : zM} {o : Nat} (ho : o < 12) (hu : u o = true) (h1 : ¬ N 68 (o : Int) = -1) (h2 : N' 68 (o : Int) = -1) (e : ∀ x : Nat, x < 12 → ¬ x = o → N' 68 (x : Int) = N 68 (x : Int)) : rm_sz (rm_g u N') = rm_sz (rm_g u N) - 1 := by
  have e1 : rm_sz (rm_g u N') = rm_sz (fun x => if x = o then -1 else rm_g u N x) := su_congr 12 0 (fun x _ hx => by
    show rm_i (if u x = true then N' 68 (x : Int) else -1) = rm_i (if x = o then -1 else (if u x = true then N 68 (x : Int) else -1))
    by_cases q : x = o
    · rw [if_pos q, q, if_pos hu, h2]
    · rw [if_neg q, e x (by omega) q])
  rw [e1, rm_sz_u ho, rm_i_n]
  have : rm_i (rm_g u N o) = 1 := by
    unfold rm_g
    rw [if_pos hu]
    exact if_neg h1
  omega
theorem and_b0 (m s : Nat) : m &&& 2 ^ s = 0 ↔ m.testBit s = false := by
  constructor
  · intro h
    have : (m &&& 2 ^ s).testBit s = false := by rw [h, Nat.zero_testBit]
    rw [Nat.testBit_and, Nat.testBit_two_pow_self, Bool.and_true] at this
    exact this
  · intro h
    apply Nat.eq_of_testBit_eq
    intro i
    rw [Nat.testBit_and, Nat.testBit_two_pow, Nat.zero_testBit]
    by_cases q : s = i
    · rw [← q, h, Bool.false_and]
    · rw [decide_eq_false q, Bool.and_false]
theorem rm_u_t {T : Nat → Bool} {s x : Nat} : rm_u T s x = true ↔ (¬ x = s ∧ T x = true) := by
  unfold rm_u
  by_cases q : x = s
  · rw [if_pos q]
    exact ⟨fun z => (by cases z), fun z => absurd q z.1⟩
  · rw [if_neg q]
    exact ⟨fun z => ⟨q, z⟩, fun z => z.2⟩
theorem km_b_u {R : zRm} {T u : Nat → Bool} {M : Nat → Int} {N : zM} (hv : km_v R T (fun x => u x = true) M) (h : ∀ x : Nat, x < 12 → u x = true → (N 68 (x : Int) = -1 ∧ ¬ km_h R T M x) ∨ ∃ s : Nat, s < rm_n R ∧ T s = true ∧ N 68 (x : Int) = (s : Int) ∧ M s = (x : Int)) : km_b R T M (rm_g u N) := by
  intro x hx
  unfold rm_g
  by_cases ux : u x = true
  · rw [if_pos ux]
    exact h x hx ux
  · rw [if_neg ux]
    refine Or.inl ⟨rfl, fun z => ?_⟩
    obtain ⟨t, t1, t2, t3⟩ := z
    rcases hv.1 t t1 t2 with y | ⟨y, _, y2, y3, _⟩
    · omega
    · obtain rfl : y = x := by omega
      exact ux y3
section
variable {g : zG} {d : Nat} {K : Option zV → zM → Prop} {N : zM}
theorem c_fixLeast {R : zRm} {T u : Nat → Bool} {Pl : Nat → Prop} {M : Nat → Int} {k e fd uf sn0 : Nat} (hd : 17 ≤ d) (hn : rm_n R ≤ 23) (hk : k ≤ 11) (he : e = 11 - k) (hp : rm_p R e = true) (hu : ∀ x, u x = uf.testBit x) (huf : uf < 4096) (h14 : N 62 14 = (uf : Int)) (hu2 : ∀ x, u x = true ↔ (e + 1 ≤ x ∧ rm_p R x = true)) (hPl : ∀ x, u x = true → Pl x) (hPe : Pl e) (hv : km_v R T (fun x => u x = true ∨ x = e) M)
    (hbe : (N 68 (e : Int) = -1 ∧ ¬ km_h R T M e) ∨ ∃ s : Nat, s < rm_n R ∧ T s = true ∧ N 68 (e : Int) = (s : Int) ∧ M s = (e : Int)) (hbu : ∀ x : Nat, x < 12 → u x = true → (N 68 (x : Int) = -1 ∧ ¬ km_h R T M x) ∨ ∃ s : Nat, s < rm_n R ∧ T s = true ∧ N 68 (x : Int) = (s : Int) ∧ M s = (x : Int)) (hsz : rm_sz (rm_g u N) + rm_i (N 68 (e : Int)) = rm_nu R (k + 1) T) (ok : sk_ok N R T Pl M sn0 fd)
    (h : ∀ (N' : zM) (T' : Nat → Bool) (M' : Nat → Int) (fd' sn' : Nat), zEfl N' N → sk_ok N' R T' Pl M' sn' fd' → km_v R T' (fun x => u x = true) M' → km_b R T' M' (rm_g u N') → rm_sz (rm_g u N') = rm_nu R k T' → rm_row R (k + 1) T = N' 68 (e : Int) :: rm_row R k T' → K none N') : zCall g d 13 [.inr (.inr ((0, 0), 62)), .inl (e : Int)] N K := by
  have e11 : 11 - k = e := he.symm
  have e12 : e < 12 := by omega
  have ue : u e = false := by
    cases z : u e
    · rfl
    · have := ((hu2 e).1 z).1
      omega
  have ek : e + 1 = 12 - k := by
    clear hbe hbu
    omega
  have pd : ∀ x, x < 12 → (u x = true ↔ rm_Pd R (e + 1) x) := fun x _ => hu2 x
  have ub : ∀ (T' : Nat → Bool) (M' : Nat → Int) (N' : zM), km_v R T' (fun x => u x = true) M' → km_b R T' M' (rm_g u N') → rm_sz (rm_g u N') ≤ rm_nu R k T' := fun T' M' N' v b => by
    have v2 : km_v R T' (rm_Pd R (e + 1)) M' := ⟨fun s s1 s2 => by
      rcases v.1 s s1 s2 with z | ⟨x, x1, x2, x3, x4⟩
      · exact Or.inl z
      · exact Or.inr ⟨x, x1, x2, (hu2 x).1 x3, x4⟩, v.2⟩
    have o := km_b_ok v2 b
    rw [ek] at o
    exact (rm_nu_max R k T' (Nat.le_trans hk (by decide))).1 _ o
  have tight : ∀ (T' : Nat → Bool) (M' : Nat → Int) (N' : zM) (Z : Nat → Prop), km_I R T' (fun x => u x = true) M' Z → km_b R T' M' (rm_g u N') → rm_sz (rm_g u N') = rm_nu R k T' := fun T' M' N' Z I b => km_max (k := k) (lo := e + 1) (Nat.le_trans hk (by decide)) ek (km_v_c I pd) b
  have np := rm_nu_p (R := R) (k := k) (T := T) (by rw [e11]; exact hp)
  have row0 : rm_nu R (k + 1) T ≤ rm_nu R k T → rm_row R (k + 1) T = -1 :: rm_row R k T := fun z => by rw [rm_row, if_neg (by rw [e11, hp]; simp), if_pos z]
  have row1 : ¬ rm_nu R (k + 1) T ≤ rm_nu R k T → ∀ f : Nat, f < rm_n R → rm_c R k T f → (∀ s, s < f → ¬ rm_c R k T s) → rm_row R (k + 1) T = (f : Int) :: rm_row R k (rm_u T f) := fun z f f1 f2 f3 => by rw [rm_row, if_neg (by rw [e11, hp]; simp), if_neg z, rm_f_eq f1 f2 f3, show ((f : Int)).toNat = f from by omega]
  refine sX0_fixLeast ⟨by omega, fun q => ?_, fun q => ?_⟩
  · obtain ⟨h0, t1, t2, t3, t4⟩ := hbe.resolve_left (fun z => q z.1)
    rw [t3]
    refine ⟨by omega, by omega, ?_⟩
    obtain ⟨o1, ⟨o2, o2b⟩, ⟨o3, o3b, o3c⟩, o4⟩ := ok
    obtain ⟨le, le1, le2, le3⟩ := o1 e e12 hPe
    obtain ⟨M1, eM1⟩ : ∃ M1 : Nat → Int, (fun x => if x = h0 then -1 else M x) = M1 := ⟨_, rfl⟩
    have m0 : M1 h0 = -1 := by rw [← eM1]; exact if_pos rfl
    have mx : ∀ x, ¬ x = h0 → M1 x = M x := fun x z => by rw [← eM1]; exact if_neg z
    obtain ⟨N1, eN1⟩ : ∃ N1, zU (zU N 69 (h0 : Int) (-1)) 68 (e : Int) (-1) = N1 := ⟨_, rfl⟩
    have n69 : ∀ s : Nat, s < rm_n R → N1 69 (s : Int) = M1 s := fun s hs => by
      rw [← eN1, zU_off 69 (by omega)]
      by_cases z : s = h0
      · rw [z, zU_eq, m0]
      · rw [zU_ne (by omega), mx s z]
        exact o4 s hs
    have n68e : N1 68 (e : Int) = -1 := by rw [← eN1, zU_eq]
    have n68 : ∀ x : Nat, ¬ x = e → N1 68 (x : Int) = N 68 (x : Int) := fun x z => by rw [← eN1, zU_ne (by omega), zU_off 68 (by omega)]
    have hN1 : zEfl N1 N := by rw [← eN1]; exact ((zEfl.refl N).u (by omega)).u (by omega)
    have adj0 : rm_a R e h0 = true := by
      rcases hv.1 h0 t1 t2 with z | ⟨x, _, x2, _, x4⟩
      · omega
      · obtain rfl : x = e := by omega
        exact x4
    have hv1 : km_v R T (fun x => u x = true) M1 := by
      refine ⟨fun s s1 s2 => ?_, fun s t s1 t1' s2 t2' sn st => ?_⟩
      · by_cases z : s = h0
        · exact Or.inl (by rw [z]; exact m0)
        · rw [mx s z]
          rcases hv.1 s s1 s2 with y | ⟨x, x1, x2, x3, x4⟩
          · exact Or.inl y
          · refine Or.inr ⟨x, x1, x2, x3.resolve_right (fun y => z ?_), x4⟩
            exact hv.2 s h0 s1 t1 s2 t2 (by omega) (by omega)
      · by_cases z : s = h0
        · rw [z, m0] at sn
          exact absurd rfl sn
        · rw [mx s z] at sn st
          by_cases y : t = h0
          · rw [y, m0] at st
            exact absurd st sn
          · rw [mx t y] at st
            exact hv.2 s t s1 t1' s2 t2' sn st
    have hb1 : ∀ x : Nat, x < 12 → u x = true → (N1 68 (x : Int) = -1 ∧ ¬ km_h R T M1 x) ∨ ∃ s : Nat, s < rm_n R ∧ T s = true ∧ N1 68 (x : Int) = (s : Int) ∧ M1 s = (x : Int) := fun x hx ux => by
      have xe : ¬ x = e := fun z => by
        rw [z, ue] at ux
        cases ux
      rw [n68 x xe]
      rcases hbu x hx ux with ⟨b1, b2⟩ | ⟨s, s1, s2, s3, s4⟩
      · refine Or.inl ⟨b1, fun z => ?_⟩
        obtain ⟨s, s1, s2, s3⟩ := z
        exact b2 ⟨s, s1, s2, by rw [← mx s (fun y => by rw [y, m0] at s3; omega)]; exact s3⟩
      · exact Or.inr ⟨s, s1, s2, s3, by rw [mx s (fun y => by rw [y] at s4; omega)]; exact s4⟩
    have kb1 := km_b_u hv1 hb1
    have ok1 : sk_ok N1 R T Pl M1 sn0 fd := ⟨by rw [hN1.1 67 (by omega)]; exact o1, ⟨by rw [← eN1, zU_off 62 (by omega), zU_off 62 (by omega)]; exact o2, o2b⟩, ⟨by rw [← eN1, zU_off 62 (by omega), zU_off 62 (by omega)]; exact o3, o3b, o3c⟩, n69⟩
    have sz1 : rm_sz (rm_g u N1) = rm_nu R (k + 1) T - 1 := by
      have a : rm_sz (rm_g u N1) = rm_sz (rm_g u N) := su_congr 12 0 (fun x _ hx => by
        show rm_i (if u x = true then N1 68 (x : Int) else -1) = rm_i (if u x = true then N 68 (x : Int) else -1)
        by_cases z : x = e
        · rw [z, ue]
          rfl
        · rw [n68 x z])
      rw [t3, rm_i_s] at hsz
      omega
    rw [eN1]
    refine c_another (R := R) (T := T) (Pl := Pl) (M := M1) (fd := fd) (uf := uf) (sn0 := sn0) (u := u) (by omega) hn hu huf (by rw [hN1.2 14 (by omega)]; exact h14) hPl hv1 kb1 ok1 (fun N2 M2 o sn2 hN2 ok2 o12 uo no v2 hh2 b2 _ k2 => zb1 ?_) (fun N2 sn2 Z hN2 e68 e69 ok2 I2 => zb0 ?_)
    · have s2 := km_sz_in o12 kb1 b2 hh2 no
      have l2 := ub T M2 N2 v2 b2
      refine h N2 T M2 fd sn2 ((zEfl.e hN2).trans hN1) ok2 v2 b2 (by omega) ?_
      rw [row0 (by omega), k2 e e12 ue, n68e]
    · have kn := tight T M1 N1 Z I2 kb1
      have hlt : ¬ rm_nu R (k + 1) T ≤ rm_nu R k T := by omega
      have loop : ∀ (j s : Nat) (P : zM) (sn : Nat), s + j = h0 + 1 → zEfl P N1 → (∀ x : Nat, x < 12 → P 68 (x : Int) = N1 68 (x : Int)) → sk_ok P R T Pl M1 sn fd → (∀ t, t < s → ¬ rm_c R k T t) → zT g d mX0_fixLeast K 37 [some (.inr (.inr ((0, 0), 62))), some (.inl (e : Int)), some (.inl (h0 : Int)), some (.inl (s : Int)), none, none] [] P := by
        intro j
        induction j with
        | zero =>
          intro s P sn hs hP p68 okP hno
          refine absurd ⟨t2, by rw [e11]; exact adj0, ?_⟩ (hno h0 (by omega))
          have a := rm_nu_u (R := R) (k := k) (s := h0) (T := T) (by rw [e11]; exact hp) t1 t2 (by rw [e11]; exact adj0)
          have v' : km_v R (rm_u T h0) (fun x => u x = true) M1 := km_v_c2 hv1 (fun s s1 s2 => ⟨by
            have s2 : (if s = h0 then false else T s) = true := s2
            by_cases z : s = h0
            · rw [if_pos z] at s2
              cases s2
            · rw [if_neg z] at s2
              exact s2, rfl⟩)
          have b' : km_b R (rm_u T h0) M1 (rm_g u N1) := km_b_u v' (fun x hx ux => by
            rcases hb1 x hx ux with ⟨b1, b2⟩ | ⟨s, s1, s2, s3, s4⟩
            · refine Or.inl ⟨b1, fun z => ?_⟩
              obtain ⟨s, s1, s2, s3⟩ := z
              have s2 : (if s = h0 then false else T s) = true := s2
              by_cases z : s = h0
              · rw [if_pos z] at s2
                cases s2
              · rw [if_neg z] at s2
                exact b2 ⟨s, s1, s2, s3⟩
            · refine Or.inr ⟨s, s1, ?_, s3, s4⟩
              show (if s = h0 then false else T s) = true
              rw [if_neg (fun z => by rw [z, m0] at s4; omega)]
              exact s2)
          have := ub _ M1 N1 v' b'
          omega
        | succ j ih =>
          intro s P sn hs hP p68 okP hno
          obtain ⟨w1, ⟨w2, w2b⟩, ⟨w3, w3b, w3c⟩, w4⟩ := okP
          have sn0' : s < rm_n R := by omega
          have p23 : 2 ^ s < 2 ^ 23 := Nat.pow_lt_pow_right (by omega) (by omega)
          refine sX0_fixLeast_37 ⟨fun q => by omega, fun _ => ⟨by omega, ?_⟩⟩
          obtain ⟨l, l1, l2, l3⟩ := w1 e e12 hPe
          have mlt := f_bits_lt (fun i => l.testBit i && !fd.testBit i) 23
          have mt := f_bits_test (fun i => l.testBit i && !fd.testBit i) 23 s
          rw [decide_eq_true (show s < 23 by omega), Bool.true_and, l3 s, decide_eq_true sn0', Bool.true_and] at mt
          rw [l1, w3, z_df l2, zshl_1 (by omega), show ((s : Int)).toNat = s from by omega, zand_nat (by omega) (by omega), zor_nat (by omega) (by omega)]
          have bz : (((f_bits (fun i => l.testBit i && !fd.testBit i) 23 &&& 2 ^ s : Nat) : Int) = 0) ↔ (rm_a R e s && !fd.testBit s) = false := by
            rw [← mt, ← and_b0]
            omega
          rw [bz]
          have tse := w3c s sn0'
          refine ⟨fun q => ?_, fun q => ?_⟩
          · have as : rm_a R e s = true ∧ fd.testBit s = false := by
              revert q
              cases rm_a R e s <;> cases fd.testBit s <;> simp
            have Ts : T s = true := by rw [tse, as.2]; rfl
            have olt : fd ||| 2 ^ s < 2 ^ 23 := Nat.or_lt_two_pow w3b p23
            have T'c : ∀ x, x < rm_n R → rm_u T s x = !(fd ||| 2 ^ s).testBit x := fun x hx => by
              rw [Nat.testBit_or, Nat.testBit_two_pow]
              unfold rm_u
              by_cases z : x = s
              · rw [if_pos z, z]
                simp
              · rw [if_neg z, decide_eq_false (fun y => z y.symm), Bool.or_false]
                exact w3c x hx
            have a := rm_nu_u (R := R) (k := k) (s := s) (T := T) (by rw [e11]; exact hp) sn0' Ts (by rw [e11]; exact as.1)
            have v' : km_v R (rm_u T s) (fun x => u x = true) M1 := km_v_c2 hv1 (fun x _ x2 => ⟨(rm_u_t.1 x2).2, rfl⟩)
            have cnd : rm_nu R k (rm_u T s) = rm_nu R (k + 1) T - 1 → rm_c R k T s := fun z => ⟨Ts, by rw [e11]; exact as.1, by omega⟩
            -- the end: it gets the stall
            have fin : ∀ (P3 : zM) (M3 : Nat → Int) (sn3 : Nat), zEfl P3 N1 → sk_ok P3 R (rm_u T s) Pl M3 sn3 (fd ||| 2 ^ s) → km_v R (rm_u T s) (fun x => u x = true) M3 → km_b R (rm_u T s) M3 (rm_g u P3) → rm_sz (rm_g u P3) = rm_nu R (k + 1) T - 1 → K none (zU (zU P3 69 (s : Int) (e : Int)) 68 (e : Int) (s : Int)) := by
              intro P3 M3 sn3 hP3 ok3 v3 b3 s3
              have l3' := ub _ M3 P3 v3 b3
              have eqg : rm_g u (zU (zU P3 69 (s : Int) (e : Int)) 68 (e : Int) (s : Int)) = rm_g u P3 := by
                funext x
                unfold rm_g
                by_cases z : x = e
                · rw [z, ue]
                  rfl
                · rw [zU_ne (by omega), zU_off 68 (by omega)]
              obtain ⟨c1, c2, c3, c4⟩ := ok3
              have xs : ∀ x, rm_u T s x = true → (if x = s then (e : Int) else M3 x) = M3 x := fun x hx => if_neg (rm_u_t.1 hx).1
              refine h _ (rm_u T s) (fun x => if x = s then (e : Int) else M3 x) (fd ||| 2 ^ s) sn3 (((hP3.trans hN1).u (by omega)).u (by omega)) ⟨by rw [zU_off 67 (by omega), zU_off 67 (by omega)]; exact c1, by rw [zU_off 62 (by omega), zU_off 62 (by omega)]; exact c2, by rw [zU_off 62 (by omega), zU_off 62 (by omega)]; exact c3, fun x hx => ?_⟩ (km_v_c2 v3 (fun x _ x2 => ⟨x2, xs x x2⟩)) ?_ ?_ ?_
              · show _ = (if x = s then (e : Int) else M3 x)
                rw [zU_off 69 (by omega)]
                by_cases z : x = s
                · rw [if_pos z, z, zU_eq]
                · rw [zU_ne (by omega), if_neg z]
                  exact c4 x hx
              · rw [eqg]
                intro x hx
                rcases b3 x hx with ⟨b1, b2⟩ | ⟨t, t1', t2', t3', t4'⟩
                · refine Or.inl ⟨b1, fun z => ?_⟩
                  obtain ⟨t, t1', t2', t3'⟩ := z
                  exact b2 ⟨t, t1', t2', by rw [← xs t t2']; exact t3'⟩
                · exact Or.inr ⟨t, t1', t2', t3', by show (if t = s then (e : Int) else M3 t) = (x : Int); rw [xs t t2']; exact t4'⟩
              · rw [eqg]
                omega
              · rw [zU_eq]
                exact row1 hlt s sn0' (cnd (by omega)) hno
            refine ⟨by omega, fun q2 => ?_, fun q2 => ?_⟩
            · rw [w4 s sn0'] at q2
              refine sX0_fixLeast_102 ⟨fun _ => ⟨by omega, by omega, ?_⟩, fun q3 => absurd (by rw [w4 s sn0']; exact q2) q3⟩
              refine fin (zU P 62 13 ((fd ||| 2 ^ s : Nat) : Int)) M1 sn hP.s ⟨by rw [zU_off 67 (by omega)]; exact w1, ⟨by rw [zU_ne (by omega)]; exact w2, w2b⟩, ⟨zU_eq, olt, T'c⟩, fun x hx => by rw [zU_off 69 (by omega)]; exact w4 x hx⟩ v' (km_b_u v' (fun x hx ux => ?_)) ?_
              · rw [zU_off 68 (by omega), p68 x hx]
                rcases hb1 x hx ux with ⟨b1, b2⟩ | ⟨t, t1', t2', t3', t4'⟩
                · refine Or.inl ⟨b1, fun z => ?_⟩
                  obtain ⟨t, t1', t2', t3'⟩ := z
                  exact b2 ⟨t, t1', (rm_u_t.1 t2').2, t3'⟩
                · exact Or.inr ⟨t, t1', rm_u_t.2 ⟨fun z => by rw [z, q2] at t4'; omega, t2'⟩, t3', t4'⟩
              · rw [← sz1]
                refine su_congr 12 0 (fun x _ hx => ?_)
                unfold rm_g
                rw [zU_off 68 (by omega), p68 x (by omega)]
            · have ms := w4 s sn0'
              rw [ms] at q2 ⊢
              obtain ⟨o, y1, y2, y3, y4⟩ := (hv1.1 s sn0' Ts).resolve_left q2
              rw [y2]
              refine ⟨by omega, ?_⟩
              have uo : u o = true := y3
              have oe : ¬ o = e := fun z => by
                rw [z, ue] at uo
                cases uo
              have go : N1 68 (o : Int) = (s : Int) := by
                rcases hb1 o y1 uo with ⟨_, b2⟩ | ⟨t, t1', t2', t3', t4'⟩
                · exact absurd ⟨s, sn0', Ts, y2⟩ b2
                · have : s = t := hv1.2 s t sn0' t1' Ts t2' q2 (by omega)
                  rw [this]
                  exact t3'
              obtain ⟨P2, eP2⟩ : ∃ P2, zU (zU P 62 13 ((fd ||| 2 ^ s : Nat) : Int)) 68 (o : Int) (-1) = P2 := ⟨_, rfl⟩
              have hP2 : zEfl P2 N1 := by rw [← eP2]; exact hP.s.u (by omega)
              have p2o : P2 68 (o : Int) = -1 := by rw [← eP2, zU_eq]
              have p2x : ∀ x : Nat, x < 12 → ¬ x = o → P2 68 (x : Int) = N1 68 (x : Int) := fun x hx z => by rw [← eP2, zU_ne (by omega), zU_off 68 (by omega)]; exact p68 x hx
              have ok2' : sk_ok P2 R (rm_u T s) Pl M1 sn (fd ||| 2 ^ s) := ⟨by rw [← eP2, zU_off 67 (by omega), zU_off 67 (by omega)]; exact w1, ⟨by rw [← eP2, zU_off 62 (by omega), zU_ne (by omega)]; exact w2, w2b⟩, ⟨by rw [← eP2, zU_off 62 (by omega), zU_eq], olt, T'c⟩, fun x hx => by rw [← eP2, zU_off 69 (by omega), zU_off 69 (by omega)]; exact w4 x hx⟩
              have kb2 : km_b R (rm_u T s) M1 (rm_g u P2) := km_b_u v' (fun x hx ux => by
                by_cases z : x = o
                · rw [z]
                  refine Or.inl ⟨p2o, fun y => ?_⟩
                  obtain ⟨t, t1', t2', t3'⟩ := y
                  exact (rm_u_t.1 t2').1 (hv1.2 s t sn0' t1' Ts (rm_u_t.1 t2').2 q2 (by omega)).symm
                · rw [p2x x hx z]
                  rcases hb1 x hx ux with ⟨b1, b2⟩ | ⟨t, t1', t2', t3', t4'⟩
                  · refine Or.inl ⟨b1, fun y => ?_⟩
                    obtain ⟨t, t1', t2', t3'⟩ := y
                    exact b2 ⟨t, t1', (rm_u_t.1 t2').2, t3'⟩
                  · exact Or.inr ⟨t, t1', rm_u_t.2 ⟨fun y => by rw [y, y2] at t4'; omega, t2'⟩, t3', t4'⟩)
              have sz2 : rm_sz (rm_g u P2) = rm_nu R (k + 1) T - 2 := by
                have := rm_sz_g (u := u) (N := N1) (N' := P2) y1 uo (by omega) p2o p2x
                omega
              rw [eP2]
              refine sX0_fixLeast_102 ⟨fun q3 => by omega, fun _ => ⟨by omega, ?_⟩⟩
              refine c_another (R := R) (T := rm_u T s) (Pl := Pl) (M := M1) (fd := fd ||| 2 ^ s) (uf := uf) (sn0 := sn) (u := u) (by omega) hn hu huf (by rw [hP2.2 14 (by omega), hN1.2 14 (by omega)]; exact h14) hPl v' kb2 ok2' (fun P3 M3 o3 sn3 hP3 ok3 o12 uo3 no3 v3 hh3 b3 _ k3 => zb1 ⟨by omega, by omega, ?_⟩) (fun P3 sn3 Z3 hP3 e683 e693 ok3 I3 => zb0 ⟨by omega, ?_⟩)
              · have s3 := km_sz_in o12 kb2 b3 hh3 no3
                exact fin P3 M3 sn3 ((zEfl.e hP3).trans hP2) ok3 v3 b3 (by omega)
              · have kn3 := tight _ M1 P2 Z3 I3 kb2
                obtain ⟨c1, c2, ⟨c3, c3b, c3c⟩, c4⟩ := ok3
                rw [zw_suc (by omega), c3, z_df olt]
                have efd : f_bits (fun i => (fd ||| 2 ^ s).testBit i && !(2 ^ s).testBit i) 23 = fd := by
                  apply Nat.eq_of_testBit_eq
                  intro i
                  rw [f_bits_test, Nat.testBit_or, Nat.testBit_two_pow]
                  by_cases z : s = i
                  · rw [← z, as.2]
                    simp
                  · rw [decide_eq_false z]
                    by_cases y : i < 23
                    · rw [decide_eq_true y]
                      simp
                    · rw [decide_eq_false y, Nat.testBit_lt_two_pow (Nat.lt_of_lt_of_le w3b (Nat.pow_le_pow_right (n := 2) (by omega) (show 23 ≤ i by omega)))]
                      rfl
                rw [efd]
                refine ih (s + 1) _ sn3 (by omega) ((((zEfl.e hP3).trans hP2).u (by omega)).s) (fun x hx => ?_) ⟨by rw [zU_off 67 (by omega), zU_off 67 (by omega)]; exact c1, by rw [zU_ne (by omega), zU_off 62 (by omega)]; exact c2, ⟨zU_eq, w3b, w3c⟩, fun x hx => by rw [zU_off 69 (by omega), zU_off 69 (by omega)]; exact c4 x hx⟩ (fun t ht => ?_)
                · rw [zU_off 68 (by omega)]
                  by_cases z : x = o
                  · rw [z, zU_eq, go]
                  · rw [zU_ne (by omega), e683]
                    exact p2x x hx z
                · by_cases z : t = s
                  · rw [z]
                    intro y
                    have := y.2.2
                    omega
                  · exact hno t (by omega)
          · rw [zw_suc (by omega)]
            refine ih (s + 1) P sn (by omega) hP p68 ⟨w1, ⟨w2, w2b⟩, ⟨w3, w3b, w3c⟩, w4⟩ (fun t ht => ?_)
            by_cases z : t = s
            · rw [z]
              intro y
              have y1 := y.1
              have y2 := y.2.1
              rw [e11] at y2
              rw [tse] at y1
              rw [y2, y1] at q
              cases q
            · exact hno t (by omega)
      exact loop (h0 + 1) 0 N2 sn2 (by omega) (zEfl.e hN2) (fun x _ => by rw [e68]) ok2 (fun t ht => by omega)
  · have ne := (hbe.resolve_right (fun z => by
      obtain ⟨s, _, _, s3, _⟩ := z
      omega)).2
    have hv1 : km_v R T (fun x => u x = true) M := by
      refine ⟨fun s s1 s2 => ?_, hv.2⟩
      rcases hv.1 s s1 s2 with y | ⟨x, x1, x2, x3, x4⟩
      · exact Or.inl y
      · exact Or.inr ⟨x, x1, x2, x3.resolve_right (fun z => ne ⟨s, s1, s2, by omega⟩), x4⟩
    have kb := km_b_u hv1 hbu
    have l := ub T M N hv1 kb
    rw [q, rm_i_n] at hsz
    refine h N T M fd sn0 (zEfl.refl N) ok hv1 kb (by omega) ?_
    rw [row0 (by omega), q]
end
