-- needs a7
/-! room: the class's canSeatAnother -/
def rm_g (u : Nat → Bool) (N : zM) (x : Nat) : Int := if u x = true then N 68 (x : Int) else -1
/-- one more is seated, some stalls being asked before -/
theorem km_in_A {R : zRm} {T : Nat → Bool} {Pd : Nat → Prop} {M M' : Nat → Int} {A : Nat → Prop} {k e : Nat} (hv : km_v R T Pd M) (he : e < 12) (hp : Pd e) (hn : ¬ km_h R T M e) (hs : km_s R T M k A e M') : km_v R T Pd M' ∧ (∀ x : Nat, km_h R T M' x ↔ (x = e ∨ km_h R T M x)) ∧ ∀ s, ¬ (s < rm_n R ∧ T s = true) → M' s = M s := by
  obtain ⟨⟨qa, qa2⟩, qb, qc, qd, _⟩ := km_s_q hv k A e M' he (fun s s1 s2 _ s4 => hn ⟨s, s1, s2, s4⟩) hs
  have mix : ∀ u w, u < rm_n R → T u = true → w < rm_n R → T w = true → A u → ¬ A w → ¬ M' u = -1 → M' u = M' w → False := by
    intro u w u1 u2 w1 w2 ua wa un uw
    rw [qa u ua] at un uw
    obtain ⟨z, z1, z2, _⟩ := (hv.1 u u1 u2).resolve_left un
    rcases (qd z).1 ⟨w, w1, w2, wa, by omega⟩ with g | ⟨v, v1, v2, v3, v4⟩
    · exact hn ⟨u, u1, u2, by omega⟩
    · have : u = v := hv.2 u v u1 v1 u2 v2 un (by omega)
      exact v3 (by rw [← this]; exact ua)
  refine ⟨⟨fun s s1 s2 => ?_, fun s t s1 t1 s2 t2 sn st => ?_⟩, fun x => ⟨?_, fun h => ?_⟩, qa2⟩
  · by_cases z : A s
    · rw [qa s z]
      exact hv.1 s s1 s2
    · rcases qb s s1 s2 z with g | ⟨x, x1, x2, x3, x4⟩
      · exact Or.inl g
      · refine Or.inr ⟨x, x1, x2, ?_, x4⟩
        rcases x3 with x3 | x3
        · exact x3
        · rw [x3]
          exact hp
  · by_cases z : A s
    · by_cases y : A t
      · rw [qa s z] at sn st
        rw [qa t y] at st
        exact hv.2 s t s1 t1 s2 t2 sn st
      · exact (mix s t s1 s2 t1 t2 z y sn st).elim
    · by_cases y : A t
      · exact (mix t s t1 t2 s1 s2 y z (by omega) st.symm).elim
      · exact qc s t s1 t1 s2 t2 z y sn st
  · rintro ⟨s, s1, s2, s3⟩
    by_cases z : A s
    · rw [qa s z] at s3
      exact Or.inr ⟨s, s1, s2, s3⟩
    · rcases (qd x).1 ⟨s, s1, s2, z, s3⟩ with g | ⟨t, t1, t2, _, t4⟩
      · exact Or.inl g
      · exact Or.inr ⟨t, t1, t2, t4⟩
  · have up : (x = e ∨ ∃ s, s < rm_n R ∧ T s = true ∧ ¬ A s ∧ M s = (x : Int)) → km_h R T M' x := fun h => by
      obtain ⟨t, t1, t2, _, t4⟩ := (qd x).2 h
      exact ⟨t, t1, t2, t4⟩
    rcases h with g | ⟨s, s1, s2, s3⟩
    · exact up (Or.inl g)
    · by_cases z : A s
      · exact ⟨s, s1, s2, by rw [qa s z]; exact s3⟩
      · exact up (Or.inr ⟨s, s1, s2, z, s3⟩)
/-- given, told anew -/
theorem km_g_u {R : zRm} {T : Nat → Bool} {u : Nat → Bool} {M M' : Nat → Int} {N N' : zM} {A : Nat → Prop} {e : Nat} (hv : km_v R T (fun x => u x = true) M') (hb : km_b R T M (rm_g u N)) (hue : u e = true) (g : km_g R T M (fun x => N 68 (x : Int)) A e M' (fun x => N' 68 (x : Int))) : km_b R T M' (rm_g u N') := by
  obtain ⟨g1, ⟨s, s1, s2, _, s4, s5⟩, g3⟩ := g
  intro x hx
  unfold rm_g
  by_cases ux : u x = true
  · rw [if_pos ux]
    by_cases q : x = e
    · rw [q]
      exact Or.inr ⟨s, s1, s2, s4, s5⟩
    · have same : ∀ (k2 : ∀ s, s < rm_n R → T s = true → ¬ A s → (M' s = (x : Int) ↔ M s = (x : Int))) (t : Nat), t < rm_n R → T t = true → (M' t = (x : Int) ↔ M t = (x : Int)) := fun k2 t t1 t2 => by
        by_cases z : A t
        · rw [g1 t z]
        · exact k2 t t1 t2 z
      rcases g3 x hx q with ⟨k1, k2⟩ | ⟨t, t1, t2, _, t4, t5⟩
      · have k1 : N' 68 (x : Int) = N 68 (x : Int) := k1
        rw [k1]
        have := hb x hx
        unfold rm_g at this
        rw [if_pos ux] at this
        rcases this with ⟨b1, b2⟩ | ⟨t, t1, t2, t3, t4⟩
        · refine Or.inl ⟨b1, fun z => ?_⟩
          obtain ⟨t, t1, t2, t3⟩ := z
          exact b2 ⟨t, t1, t2, (same k2 t t1 t2).1 t3⟩
        · exact Or.inr ⟨t, t1, t2, t3, (same k2 t t1 t2).2 t4⟩
      · exact Or.inr ⟨t, t1, t2, t4, t5⟩
  · rw [if_neg ux]
    refine Or.inl ⟨rfl, fun z => ?_⟩
    obtain ⟨t, t1, t2, t3⟩ := z
    rcases hv.1 t t1 t2 with y | ⟨y, _, y2, y3, _⟩
    · omega
    · obtain rfl : y = x := by omega
      exact ux y3
section
variable {g : zG} {d : Nat} {K : Option zV → zM → Prop} {N : zM}
theorem c_another {R : zRm} {T : Nat → Bool} {Pl : Nat → Prop} {M : Nat → Int} {fd uf sn0 : Nat} {u : Nat → Bool} (hd : 15 ≤ d) (hn : rm_n R ≤ 23) (hu : ∀ x, u x = uf.testBit x) (huf : uf < 4096) (h14 : N 62 14 = (uf : Int)) (hPl : ∀ x, u x = true → Pl x) (hv : km_v R T (fun x => u x = true) M) (hb : km_b R T M (rm_g u N)) (ok : sk_ok N R T Pl M sn0 fd)
    (h1 : ∀ (N' : zM) (M' : Nat → Int) (e sn' : Nat), zEse N' N → sk_ok N' R T Pl M' sn' fd → e < 12 → u e = true → ¬ km_h R T M e → km_v R T (fun x => u x = true) M' → (∀ x : Nat, km_h R T M' x ↔ (x = e ∨ km_h R T M x)) → km_b R T M' (rm_g u N') → (∀ s, ¬ (s < rm_n R ∧ T s = true) → M' s = M s) → (∀ x : Nat, x < 12 → u x = false → N' 68 (x : Int) = N 68 (x : Int)) → K (some (.inl 1)) N')
    (h0 : ∀ (N' : zM) (sn' : Nat) (Z : Nat → Prop), zEse N' N → N' 68 = N 68 → N' 69 = N 69 → sk_ok N' R T Pl M sn' fd → km_I R T (fun x => u x = true) M Z → K (some (.inl 0)) N') : zCall g d 12 [.inr (.inr ((0, 0), 62))] N K := by
  refine sX0_canSeatAnother ?_
  have loop : ∀ (k i : Nat) (P : zM) (sn : Nat), i + k = 12 → zEse P N → P 68 = N 68 → P 69 = N 69 → sk_ok P R T Pl M sn fd → km_cl R T M (fun s => sn.testBit s = true) → (∀ x, x < i → u x = true → ¬ km_h R T M x → ∀ t, t < rm_n R → T t = true → rm_a R x t = true → sn.testBit t = true) → zT g d mX0_canSeatAnother K 7 [some (.inr (.inr ((0, 0), 62))), some (.inl (i : Int))] [] P := by
    intro k
    induction k with
    | zero =>
      intro i P sn hi hP e68 e69 okP cl un
      refine sX0_canSeatAnother_7 ⟨fun _ => h0 P sn _ hP e68 e69 okP ⟨hv, cl, fun x hx px hnx => un x (by omega) px hnx⟩, fun q => by omega⟩
    | succ k ih =>
      intro i P sn hi hP e68 e69 okP cl un
      have skip : (u i = true → km_h R T M i) → zT g d mX0_canSeatAnother K 7 [some (.inr (.inr ((0, 0), 62))), some (.inl (zw ((i : Int) + 1)))] [] P := fun hh => by
        rw [zw_suc (by omega)]
        refine ih (i + 1) P sn (by omega) hP e68 e69 okP cl (fun x hx px hnx => ?_)
        by_cases z : x = i
        · rw [z] at px hnx
          exact absurd (hh px) hnx
        · exact un x (by omega) px hnx
      refine sX0_canSeatAnother_7 ⟨fun q => by omega, fun _ => ?_⟩
      rw [hP.2 14 (by omega), h14, z_tst0 (by omega) (by omega), show ((i : Int)).toNat = i from by omega, ← hu i, e68]
      refine ⟨fun q => skip (fun z => by rw [q] at z; cases z), fun q => ⟨by omega, ?_⟩⟩
      have ui : u i = true := by
        cases z : u i
        · exact absurd z q
        · rfl
      have bi := km_b_h hb (x := i) (by omega)
      unfold rm_g at bi
      rw [if_pos ui] at bi
      refine ⟨fun q2 => skip (fun _ => bi.1 q2), fun q2 => ⟨by omega, ?_⟩⟩
      have ni : ¬ km_h R T M i := fun z => bi.2 z q2
      have := c_canSeat (g := g) (R := R) (T := T) (Pd := fun x => u x = true) (Pl := Pl) (M := M) (fd := fd) hn hv hPl 12 (d - 1) P sn i [] (zBz (fun μ1 => K (some (.inl 1)) μ1) (fun μ1 => zT g d mX0_canSeatAnother K 7 [some (.inr (.inr ((0, 0), 62))), some (.inl (zw ((i : Int) + 1)))] [] μ1)) (by simp) (by omega) okP (by omega) (hPl i ui) ⟨List.nodup_nil, fun x hx => by simp at hx, by simp, fun s s1 s2 _ => ⟨by simp, fun z => ni ⟨s, s1, s2, z⟩⟩⟩ (fun P2 M2 k2 sn2 hP2 ok2 hs2 hg2 => zb1 ?_) (fun P2 sn2 hP2 e682 e692 ok2 hf2 => zb0 ?_)
      · exact this
      · obtain ⟨n1, n2, n3⟩ := km_in_A hv (by omega) ui ni hs2
        rw [e68] at hg2
        refine h1 P2 M2 i sn2 (hP2.trans hP) ok2 (by omega) ui ni n1 n2 (km_g_u n1 hb ui hg2) n3 (fun x hx ux => ?_)
        rcases hg2.2.2 x hx (fun z => by rw [z, ui] at ux; cases ux) with z | ⟨s, s1, s2, _, _, s5⟩
        · exact z.1
        · rcases n1.1 s s1 s2 with y | ⟨y, _, y2, y3, _⟩
          · omega
          · obtain rfl : y = x := by omega
            rw [ux] at y3
            cases y3
      · rw [zw_suc (by omega)]
        refine ih (i + 1) P2 sn2 (by omega) (hP2.trans hP) (by rw [e682]; exact e68) (by rw [e692]; exact e69) ok2 (fun s s1 s2 s3 => ?_) (fun x hx px hnx t t1 t2 t3 => ?_)
        · rcases hf2.2.1 s s1 s2 s3 with z | z
          · have := cl s s1 s2 z
            exact ⟨this.1, fun t t1 t2 t3 => hf2.1 t (this.2 t t1 t2 t3)⟩
          · exact z
        · by_cases z : x = i
          · rw [z] at t3
            exact hf2.2.2 t t1 t1 t2 t3
          · exact hf2.1 t (un x (by omega) px hnx t t1 t2 t3)
  obtain ⟨o1, o2, o3, o4⟩ := ok
  exact loop 12 0 _ 0 (by omega) (zEse.refl N).s (zU_off 68 (by omega)) (zU_off 69 (by omega)) ⟨by rw [zU_off 67 (by omega)]; exact o1, ⟨zU_eq, by omega⟩, by rw [zU_ne (by omega)]; exact o3, fun s hs => by rw [zU_off 69 (by omega)]; exact o4 s hs⟩ (fun s _ _ z => absurd (show Nat.testBit 0 s = true from z) (by rw [Nat.zero_testBit]; simp)) (fun x hx => by omega)
end
