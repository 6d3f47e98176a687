-- needs a3
/-! room: the reference seats as many as may be -/
theorem rm_sz_b (a : Nat → Int) : 0 ≤ rm_sz a ∧ rm_sz a ≤ 12 := by
  have := su_b (F := fun x => rm_i (a x)) (a := 0) (b := 1) 12 0 (fun t _ _ => by unfold rm_i; split <;> omega)
  unfold rm_sz
  omega
/-- the engines from lo on, up to e, that ask -/
def rm_Pe (R : zRm) (lo e x : Nat) : Prop := (lo ≤ x ∧ x < e) ∧ rm_p R x = true
theorem km_v_c {R : zRm} {T : Nat → Bool} {Pd Pd' : Nat → Prop} {M : Nat → Int} {Z : Nat → Prop} (h : km_I R T Pd M Z) (e : ∀ x, x < 12 → (Pd x ↔ Pd' x)) : km_I R T Pd' M Z := by
  refine ⟨⟨fun s s1 s2 => ?_, h.1.2⟩, h.2.1, fun x hx px => h.2.2 x hx ((e x hx).2 px)⟩
  rcases h.1.1 s s1 s2 with g | ⟨x, x1, x2, x3, x4⟩
  · exact Or.inl g
  · exact Or.inr ⟨x, x1, x2, (e x x1).1 x3, x4⟩
section
variable {g : zG} {d : Nat} {K : Option zV → zM → Prop} {N : zM} {nn fx : Int} {S : zS}
theorem rm_lim {R : zRm} {bits E x : Nat} {m : Int} (hp : ∀ x : Nat, rm_p R x = bits.testBit x) (hb : bits < 2 ^ E) (hE : m = (E : Int)) (h : rm_p R x = true) : (x : Int) < m := by
  rcases Nat.lt_or_ge x E with q | q
  · omega
  · rw [hp, Nat.testBit_lt_two_pow (Nat.lt_of_lt_of_le hb (Nat.pow_le_pow_right (n := 2) (by omega) q))] at h
    cases h
theorem m_mostIn {R : zRm} {T : Nat → Bool} {M0 : Nat → Int} {bits lo k0 E : Nat} (hd : 330 ≤ d) (hC : mS N S) (hI : iS nn S) (hn : S.1 13 0 = (rm_n R : Int)) (hE : S.1 13 3 = (E : Int)) (ha : ∀ x s : Nat, rm_a R x s = f_takes S.1 (s : Int) (x : Int)) (hp : ∀ x : Nat, rm_p R x = bits.testBit x) (hb : bits < 2 ^ E) (hroad : ∀ x : Nat, rm_p R x = true → S.1 2 (x : Int) = -1) (hfx : fx = (lo : Int) - 1) (hlo : lo ≤ 12) (hk : k0 = 12 - lo) (h149 : ∀ s : Nat, s < rm_n R → N 149 (s : Int) = M0 s) (hM0 : ∀ s : Nat, s < rm_n R → -1 ≤ M0 s) (hT : ∀ s : Nat, s < rm_n R → T s = decide (M0 s = -1 ∨ fx < M0 s))
    (h : ∀ (N' : zM) (M' : Nat → Int), zErm N' N → (∀ s : Nat, s < rm_n R → N' 149 (s : Int) = M' s) → (∀ s : Nat, s < rm_n R → T s = false → M' s = M0 s) → (∀ s : Nat, s < rm_n R → T s = true → M' s = -1 ∨ ∃ x : Nat, x < 12 ∧ M' s = (x : Int) ∧ lo ≤ x ∧ rm_p R x = true) → K (some (.inl (rm_nu R k0 T))) N') : zCall g d 238 [.inr (.inr ((0, 12), 119)), .inl (bits : Int), .inl fx] N K := by
  have w := hI.env
  have E12 : E ≤ 12 := by omega
  have bl : bits < 2 ^ 12 := Nat.lt_of_lt_of_le hb (Nat.pow_le_pow_right (by omega) E12)
  have pE : ∀ x, rm_p R x = true → x < E := fun x hx => by
    rcases Nat.lt_or_ge x E with z | z
    · exact z
    · rw [hp, Nat.testBit_lt_two_pow (Nat.lt_of_lt_of_le hb (Nat.pow_le_pow_right (n := 2) (by omega) z))] at hx
      cases hx
  refine sX12_mostIn ?_
  -- the engines
  have engs : ∀ (k e : Nat) (P : zM) (M b : Nat → Int) (Z : Nat → Prop), lo ≤ e → (e + k = E ∨ (E ≤ e ∧ k = 0)) → zErm P N → (∀ s : Nat, s < rm_n R → P 149 (s : Int) = M s) → (∀ s : Nat, s < rm_n R → T s = false → M s = M0 s) → km_I R T (rm_Pe R lo e) M Z → km_b R T M b → zT g d mX12_mostIn K 40 [some (.inr (.inr ((0, 12), 119))), some (.inl (bits : Int)), some (.inl fx), some (.inl (rm_sz b)), some (.inl (e : Int)), none] [] P := by
    intro k
    induction k with
    | zero =>
      intro e P M b Z hle he hP hP149 hkeep hIe hbe
      have hCP := hC.rm hP
      have ev := hCP.env
      refine sX12_mostIn_40 ⟨fun _ => ?_, fun q => by omega⟩
      have hI2 : km_I R T (rm_Pd R lo) M Z := km_v_c hIe (fun x _ => ⟨fun z => ⟨z.1.1, z.2⟩, fun z => ⟨⟨z.1, by have := pE x z.2; omega⟩, z.2⟩⟩)
      rw [km_max (k := k0) (lo := lo) (by omega) (by omega) hI2 hbe]
      refine h P M hP hP149 hkeep (fun s s1 s2 => ?_)
      rcases hI2.1.1 s s1 s2 with z | ⟨x, x1, x2, x3, _⟩
      · exact Or.inl z
      · exact Or.inr ⟨x, x1, x2, x3.1, x3.2⟩
    | succ k ih =>
      intro e P M b Z hle he hP hP149 hkeep hIe hbe
      have hCP := hC.rm hP
      have ev := hCP.env
      have eE : e < E := by omega
      have sb := rm_sz_b b
      refine sX12_mostIn_40 ⟨fun q => by omega, fun _ => ?_⟩
      rw [z_tst0 (by omega) (by omega), show ((e : Int)).toNat = e from by omega, ← hp e]
      refine ⟨fun q => ?_, fun q => ?_⟩
      · have pe : rm_p R e = true := by
          cases z : rm_p R e
          · exact absurd z q
          · rfl
        have hPe : ∀ x, rm_Pe R lo (e + 1) x ↔ (rm_Pe R lo e x ∨ x = e) := fun x => by
          constructor
          · intro z
            by_cases y : x = e
            · exact Or.inr y
            · exact Or.inl ⟨⟨z.1.1, by have := z.1.2; omega⟩, z.2⟩
          · intro z
            rcases z with z | z
            · exact ⟨⟨z.1.1, by have := z.1.2; omega⟩, z.2⟩
            · rw [z]
              exact ⟨⟨hle, by omega⟩, pe⟩
        have noth : ¬ km_h R T M e := fun z => by
          obtain ⟨s, s1, s2, s3⟩ := z
          rcases hIe.1.1 s s1 s2 with y | ⟨x, _, x2, x3, _⟩
          · omega
          · have := x3.1.2
            omega
        have reset : ∀ (k2 i : Nat) (P2 : zM), i + k2 = rm_n R → zErm P2 N → (∀ s : Nat, s < rm_n R → P2 149 (s : Int) = M s) → (∀ s : Nat, s < i → P2 150 (s : Int) = 0) → zT g d mX12_mostIn K 64 [some (.inr (.inr ((0, 12), 119))), some (.inl (bits : Int)), some (.inl fx), some (.inl (rm_sz b)), some (.inl (e : Int)), some (.inl (i : Int))] [] P2 := by
          intro k2
          induction k2 with
          | zero =>
            intro i P2 hi hP2 h2 h150
            obtain rfl : i = rm_n R := by omega
            have hCP2 := hC.rm hP2
            have ev2 := hCP2.env
            refine sX12_mostIn_64 ⟨fun _ => ⟨by omega, ?_⟩, fun q => by omega⟩
            refine m_findsStall (R := R) (T := T) (Pd := rm_Pe R lo e) (M := M) hI hn ha (fun x hx => ⟨⟨hroad x hx.2, rm_lim hp hb hE hx.2⟩, by have := hx.1.1; omega⟩) hIe.1 (fun s s1 s2 => ?_) 12 (d - 1) P2 (fun _ => False) e [] _ (by simp) (by omega) hCP2 h2 (fun s hs => ⟨fun _ z => z, fun _ => h150 s hs⟩) (by omega) ⟨hroad e pe, rm_lim hp hb hE pe⟩ ⟨List.nodup_nil, fun x hx => by simp at hx, by simp, fun s s1 s2 _ => ⟨by simp, fun z => noth ⟨s, s1, s2, z⟩⟩⟩ (fun P3 M3 k3 hP3 h3 hs3 => zb1 ?_) (fun P3 A3 hP3 h3 _ hf3 => zb0 ?_)
            · have t0 := hT s s1
              rw [s2] at t0
              have := of_decide_eq_false t0.symm
              rw [hkeep s s1 s2]
              omega
            · obtain ⟨n1, n2, n3⟩ := km_in (Pd' := rm_Pe R lo (e + 1)) hIe (by omega) noth hPe hs3
              obtain ⟨b3, hb3⟩ := km_b_ex R T M3
              rw [zwi (x := rm_sz b + 1) (by omega) (by omega), zw_suc (by omega), ← km_sz_in (by omega) hbe hb3 n2 noth]
              exact ih (e + 1) P3 M3 b3 Z (by omega) (by omega) (hP3.trans hP2) h3 (fun s s1 s2 => by rw [n3 s (fun z => by rw [s2] at z; cases z.2)]; exact hkeep s s1 s2) n1 hb3
            · rw [zwi (x := rm_sz b + 0) (by omega) (by omega), Int.add_zero, zw_suc (by omega)]
              exact ih (e + 1) P3 M b _ (by omega) (by omega) (hP3.trans hP2) h3 hkeep (km_out hIe hPe hf3) hbe
          | succ k2 ih2 =>
            intro i P2 hi hP2 h2 h150
            have ev2 := (hC.rm hP2).env
            refine sX12_mostIn_64 ⟨fun q => by omega, fun _ => ⟨by omega, ?_⟩⟩
            rw [zw_suc (by omega)]
            refine ih2 (i + 1) _ (by omega) (hP2.u (by omega)) (fun s hs => by rw [zU_off 149 (by omega)]; exact h2 s hs) (fun s hs => ?_)
            by_cases z : s = i
            · rw [z, zU_eq]
            · rw [zU_ne (by omega)]
              exact h150 s (by omega)
        exact reset (rm_n R) 0 P (by omega) hP hP149 (fun s hs => by omega)
      · rw [zw_suc (by omega)]
        refine ih (e + 1) P M b Z (by omega) (by omega) hP hP149 hkeep (km_v_c hIe (fun x _ => ⟨fun z => ⟨⟨z.1.1, by have := z.1.2; omega⟩, z.2⟩, fun z => ⟨⟨z.1.1, ?_⟩, z.2⟩⟩)) hbe
        have z1 := z.1.2
        by_cases y : x = e
        · have z2 := z.2
          rw [y, q] at z2
          cases z2
        · omega
  -- those above go out
  have clr : ∀ (k i : Nat) (P : zM), i + k = rm_n R → zErm P N → (∀ s : Nat, s < rm_n R → P 149 (s : Int) = if s < i ∧ fx < M0 s then -1 else M0 s) → zT g d mX12_mostIn K 2 [some (.inr (.inr ((0, 12), 119))), some (.inl (bits : Int)), some (.inl fx), some (.inl (i : Int)), none, none] [] P := by
    intro k
    induction k with
    | zero =>
      intro i P hi hP hP149
      obtain rfl : i = rm_n R := by omega
      have ev := (hC.rm hP).env
      refine sX12_mostIn_2 ⟨fun _ => ?_, fun q => by omega⟩
      rw [hfx, show (lo : Int) - 1 + 1 = (lo : Int) from by omega, zwi (x := (lo : Int)) (by omega) (by omega), ← hfx]
      have free : ∀ s : Nat, s < rm_n R → T s = true → (if s < rm_n R ∧ fx < M0 s then -1 else M0 s) = -1 := fun s s1 s2 => by
        have t0 := hT s s1
        rw [s2] at t0
        have := of_decide_eq_true t0.symm
        by_cases z : fx < M0 s
        · rw [if_pos ⟨s1, z⟩]
        · rw [if_neg (fun y => z y.2)]
          omega
      have zero : rm_sz (fun _ => -1) = 0 := su_0 12 0 (fun _ _ _ => rfl)
      have := engs (E - lo) lo P (fun s => if s < rm_n R ∧ fx < M0 s then -1 else M0 s) (fun _ => -1) (fun _ => False) (by omega) (by omega) hP hP149 (fun s s1 s2 => by
        have t0 := hT s s1
        rw [s2] at t0
        have := of_decide_eq_false t0.symm
        show (if s < rm_n R ∧ fx < M0 s then -1 else M0 s) = M0 s
        rw [if_neg (by omega)]) ⟨⟨fun s s1 s2 => Or.inl (free s s1 s2), fun s t s1 _ s2 _ sn _ => absurd (free s s1 s2) sn⟩, fun _ _ _ z => z.elim, fun x hx px _ => by have := px.1; omega⟩ (fun x hx => Or.inl ⟨rfl, fun z => by
          obtain ⟨s, s1, s2, s3⟩ := z
          have := free s s1 s2
          have s3 : (if s < rm_n R ∧ fx < M0 s then -1 else M0 s) = (x : Int) := s3
          omega⟩)
      rw [zero] at this
      exact this
    | succ k ih =>
      intro i P hi hP hP149
      have ev := (hC.rm hP).env
      have pi := hP149 i (by omega)
      rw [if_neg (by omega)] at pi
      refine sX12_mostIn_2 ⟨fun q => by omega, fun _ => ⟨by omega, fun q => ?_, fun q => ?_⟩⟩
      · rw [zw_suc (by omega)]
        refine ih (i + 1) P (by omega) hP (fun s hs => ?_)
        rw [hP149 s hs]
        by_cases z : s = i
        · rw [z, if_neg (by omega), if_neg (by omega)]
        · by_cases y : s < i ∧ fx < M0 s
          · rw [if_pos y, if_pos (by omega)]
          · rw [if_neg y, if_neg (by omega)]
      · rw [zw_suc (by omega)]
        refine ih (i + 1) _ (by omega) (hP.u (by omega)) (fun s hs => ?_)
        by_cases z : s = i
        · rw [z, zU_eq, if_pos (by omega)]
        · rw [zU_ne (by omega), hP149 s hs]
          by_cases y : s < i ∧ fx < M0 s
          · rw [if_pos y, if_pos (by omega)]
          · rw [if_neg y, if_neg (by omega)]
  refine clr (rm_n R) 0 N (by omega) (zErm.refl N) (fun s hs => ?_)
  rw [if_neg (by omega)]
  exact h149 s hs
end
