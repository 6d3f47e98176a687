-- needs a6
/-! room: the class's canSeat -/
theorem zEse.refl (μ : zM) : zEse μ μ := ⟨fun _ _ => rfl, fun _ _ => rfl⟩
theorem zEse.trans {a b c : zM} (h : zEse a b) (h' : zEse b c) : zEse a c := ⟨fun j hj => (h.1 j hj).trans (h'.1 j hj), fun i hi => (h.2 i hi).trans (h'.2 i hi)⟩
theorem zEse.u {a b : zM} {j : Nat} {i v : Int} (h : zEse a b) (hj : j = 68 ∨ j = 69) : zEse (zU a j i v) b := ⟨fun k hk => by rw [zU_off k (by omega)]; exact h.1 k hk, fun k hk => by rw [zU_off 62 (by omega)]; exact h.2 k hk⟩
theorem zEse.s {a b : zM} {v : Int} (h : zEse a b) : zEse (zU a 62 12 v) b := ⟨fun k hk => by rw [zU_off k (by omega)]; exact h.1 k hk, fun k hk => by rw [zU_ne (by omega)]; exact h.2 k hk⟩
/-- what canSeat reads: the stalls each may have, those asked, those given away, who holds which -/
def sk_ok (N : zM) (R : zRm) (T : Nat → Bool) (Pl : Nat → Prop) (M : Nat → Int) (sn fd : Nat) : Prop := (∀ x : Nat, x < 12 → Pl x → ∃ l : Nat, N 67 (x : Int) = (l : Int) ∧ l < 2 ^ 23 ∧ ∀ s, l.testBit s = (decide (s < rm_n R) && rm_a R x s)) ∧ (N 62 12 = (sn : Int) ∧ sn < 2 ^ 23) ∧ (N 62 13 = (fd : Int) ∧ fd < 2 ^ 23 ∧ ∀ s, s < rm_n R → T s = !fd.testBit s) ∧ ∀ s : Nat, s < rm_n R → N 69 (s : Int) = M s
section
variable {g : zG} {μ : zM}
theorem j_ntzw {d : Nat} {K : Option zV → zM → Prop} {m e : Nat} (hm : m < 2 ^ 23) (h1 : m.testBit e = true) (h2 : ∀ i, i < e → m.testBit i = false) (he : e < 23) (h : K (some (.inl (e : Int))) μ) : zCall g d 282 [.inl (m : Int)] μ K := by
  rw [← ntz_w_r e he] at h
  refine sJ6_numberOfTrailingZeros_0f7a4 ?_
  rw [low_2 (by omega) h1 h2 he]
  generalize ((2 ^ e : Nat) : Int) - 1 = y at *
  unfold ntz_w at h
  refine ⟨fun q => ⟨fun q1 => ⟨fun q2 => j_ntz49 ?_, fun q2 => j_ntz49 ?_⟩, fun q1 => ⟨fun q2 => j_ntz49 ?_, fun q2 => j_ntz49 ?_⟩⟩, fun q => ?_⟩
  · rw [if_pos q, if_pos q1, if_pos q2] at h; exact h
  · rw [if_pos q, if_pos q1, if_neg (by omega)] at h; exact h
  · rw [if_pos q, if_neg (by omega), if_pos q2] at h; exact h
  · rw [if_pos q, if_neg (by omega), if_neg (by omega)] at h; exact h
  · rw [if_neg (by omega)] at h; exact h
theorem c_canSeat {R : zRm} {T : Nat → Bool} {Pd Pl : Nat → Prop} {M : Nat → Int} {fd : Nat} (hn : rm_n R ≤ 23) (hv : km_v R T Pd M) (hPl : ∀ x, Pd x → Pl x) :
    ∀ (f d : Nat) (N : zM) (sn e : Nat) (L : List Int) (K : Option zV → zM → Prop), 12 ≤ L.length + f → f + 1 ≤ d → sk_ok N R T Pl M sn fd → e < 12 → Pl e → km_L R T M (fun s => sn.testBit s = true) e L →
      (∀ (N' : zM) (M' : Nat → Int) (k sn' : Nat), zEse N' N → sk_ok N' R T Pl M' sn' fd → km_s R T M k (fun s => sn.testBit s = true) e M' → km_g R T M (fun x => N 68 (x : Int)) (fun s => sn.testBit s = true) e M' (fun x => N' 68 (x : Int)) → K (some (.inl 1)) N') →
      (∀ (N' : zM) (sn' : Nat), zEse N' N → N' 68 = N 68 → N' 69 = N 69 → sk_ok N' R T Pl M sn' fd → km_f R T M (fun s => sn.testBit s = true) (fun s => sn'.testBit s = true) e (rm_n R) → K (some (.inl 0)) N') → zCall g d 11 [.inr (.inr ((0, 0), 62)), .inl (e : Int), .inl (L.length : Int)] N K := by
  intro f
  induction f with
  | zero =>
    intro d N sn e L K hf hd ok he hpe hL h1 h0
    have := km_L_len hL he
    omega
  | succ f ih =>
    intro d N sn e L K hf hd ok he hpe hL h1 h0
    have ll := km_L_len hL he
    refine sX0_canSeat ⟨fun _ => ?_, fun q => by omega⟩
    have loop : ∀ (k i : Nat) (P : zM) (sn' : Nat), i + k = 23 → zEse P N → P 68 = N 68 → P 69 = N 69 → sk_ok P R T Pl M sn' fd → km_f R T M (fun s => sn.testBit s = true) (fun s => sn'.testBit s = true) e i → zT g d mX0_canSeat K 10 [some (.inr (.inr ((0, 0), 62))), some (.inl (e : Int)), some (.inl (L.length : Int)), some (.inl (i : Int)), none, none, none] [] P := by
      intro k
      induction k with
      | zero =>
        intro i P sn' hi hP e68 e69 okP hfl
        refine sX0_canSeat_10 ⟨fun _ => h0 P sn' hP e68 e69 okP (km_f_mono hfl (by omega)), fun q => by omega⟩
      | succ k ih2 =>
        intro i P sn' hi hP e68 e69 okP hfl
        obtain ⟨o1, ⟨o2, o2b⟩, ⟨o3, o3b, o3c⟩, o4⟩ := okP
        obtain ⟨l, l1, l2, l3⟩ := o1 e he hpe
        refine sX0_canSeat_10 ⟨fun q => by omega, fun _ => ⟨by omega, ?_⟩⟩
        have lt1 := f_bits_lt (fun i => l.testBit i && !sn'.testBit i) 23
        have lt2 := f_bits_lt (fun i => (f_bits (fun i => l.testBit i && !sn'.testBit i) 23).testBit i && !fd.testBit i) 23
        have bt : ∀ s, s < 23 → (f_bits (fun i => (f_bits (fun i => l.testBit i && !sn'.testBit i) 23).testBit i && !fd.testBit i) 23).testBit s = ((l.testBit s && !sn'.testBit s) && !fd.testBit s) := fun s hs => by
          rw [f_bits_test, decide_eq_true hs, Bool.true_and, f_bits_test, decide_eq_true hs, Bool.true_and]
        rw [l1, o2, o3, z_df l2, z_df lt1]
        obtain ⟨m, em⟩ : ∃ m, f_bits (fun i => (f_bits (fun i => l.testBit i && !sn'.testBit i) 23).testBit i && !fd.testBit i) 23 = m := ⟨_, rfl⟩
        rw [em] at lt2 bt ⊢
        -- what is not open
        have shut : ∀ t, t < rm_n R → m.testBit t = false → T t = true → rm_a R e t = true → sn'.testBit t = true := fun t t1 t2 t3 t4 => by
          rw [bt t (by omega), l3 t, decide_eq_true t1, t4, Bool.true_and, Bool.true_and] at t2
          rw [o3c t t1] at t3
          cases z : sn'.testBit t
          · rw [z, t3] at t2
            cases t2
          · rfl
        refine ⟨fun q => ⟨by omega, ?_⟩, fun q => ?_⟩
        · obtain ⟨r, r1, r2, r3⟩ := low_x 23 m (by omega) lt2
          have br := bt r r1
          rw [r2, l3 r] at br
          have hb : r < rm_n R ∧ rm_a R e r = true ∧ sn'.testBit r = false ∧ fd.testBit r = false := by
            by_cases z : r < rm_n R
            · refine ⟨z, ?_⟩
              rw [decide_eq_true z, Bool.true_and] at br
              revert br
              cases rm_a R e r <;> cases sn'.testBit r <;> cases fd.testBit r <;> simp
            · rw [decide_eq_false z] at br
              simp at br
          obtain ⟨rn, adj, rs, rf⟩ := hb
          have Tr : T r = true := by rw [o3c r rn, rf]; rfl
          have nA' : ¬ sn'.testBit r = true := by rw [rs]; simp
          have nA : ¬ sn.testBit r = true := fun z => nA' (hfl.1 r z)
          have p23 : 2 ^ r < 2 ^ 23 := Nat.pow_lt_pow_right (by omega) r1
          have ir : i ≤ r := by
            rcases Nat.lt_or_ge r i with z | z
            · exact absurd (hfl.2.2 r z rn Tr adj) nA'
            · exact z
          have hflr : km_f R T M (fun s => sn.testBit s = true) (fun s => sn'.testBit s = true) e r := ⟨hfl.1, hfl.2.1, fun t ht t1 t2 t3 => shut t t1 (r3 t ht) t2 t3⟩
          refine j_ntzw lt2 r2 r3 r1 (zi ⟨by omega, ?_⟩)
          rw [zshl_1 (by omega), show ((r : Int)).toNat = r from by omega, o2, zor_nat (by omega) (by omega)]
          have olt : sn' ||| 2 ^ r < 2 ^ 23 := Nat.or_lt_two_pow o2b p23
          have ob : ∀ s, (sn' ||| 2 ^ r).testBit s = true ↔ (sn'.testBit s = true ∨ s = r) := fun s => by
            rw [Nat.testBit_or, Nat.testBit_two_pow, Bool.or_eq_true, decide_eq_true_eq]
            exact ⟨fun z => z.elim Or.inl (fun y => Or.inr y.symm), fun z => z.elim Or.inl (fun y => Or.inr y.symm)⟩
          have mr := o4 r rn
          have oke : ∀ M' : Nat → Int, ∀ P' : zM, P' 67 = P 67 → P' 62 12 = ((sn' ||| 2 ^ r : Nat) : Int) → P' 62 13 = P 62 13 → (∀ s : Nat, s < rm_n R → P' 69 (s : Int) = M' s) → sk_ok P' R T Pl M' (sn' ||| 2 ^ r) fd := fun M' P' a1 a2 a3 a4 => ⟨by rw [a1]; exact o1, ⟨a2, olt⟩, ⟨by rw [a3]; exact o3, o3b, o3c⟩, a4⟩
          rw [mr]
          refine ⟨fun q2 => ?_, fun q2 => ?_⟩
          · have gg := km_g_0 (R := R) (T := T) (M := M) (b := fun x : Nat => N 68 (x : Int)) (A := fun s => sn.testBit s = true) (e := e) rn Tr nA q2
            refine h1 _ (fun x => if x = r then (e : Int) else M x) 1 (sn' ||| 2 ^ r) ((hP.s.u (by omega)).u (by omega)) (oke _ _ (by rw [zU_off 67 (by omega), zU_off 67 (by omega), zU_off 67 (by omega)]) (by rw [zU_off 62 (by omega), zU_off 62 (by omega), zU_eq]) (by rw [zU_off 62 (by omega), zU_off 62 (by omega), zU_ne (by omega)]) (fun s hs => ?_)) ⟨r, rn, Tr, nA, adj, Or.inl ⟨q2, rfl⟩⟩ ?_
            · rw [zU_off 69 (by omega)]
              by_cases z : s = r
              · rw [z, zU_eq, if_pos rfl]
              · rw [zU_ne (by omega), zU_off 69 (by omega), if_neg z]
                exact o4 s hs
            · have eb : (fun x : Nat => zU (zU (zU P 62 12 ((sn' ||| 2 ^ r : Nat) : Int)) 69 (r : Int) (e : Int)) 68 (e : Int) (r : Int) 68 (x : Int)) = fun x : Nat => if x = e then (r : Int) else N 68 (x : Int) := by
                funext y
                by_cases z : y = e
                · rw [z, zU_eq, if_pos rfl]
                · rw [zU_ne (by omega), zU_off 68 (by omega), zU_off 68 (by omega), e68, if_neg z]
              rw [eb]
              exact gg
          · obtain ⟨h, x1, x2, x3, x4⟩ := (hv.1 r rn Tr).resolve_left q2
            have neh : ¬ e = h := fun z => (hL.2.2.2 r rn Tr nA).2 (by rw [x2, z])
            rw [x2, zwi (x := (L.length : Int) + 1) (by omega) (by omega), show (L.length : Int) + 1 = (((e : Int) :: L).length : Int) from by rw [List.length_cons]; omega]
            have hL1 := km_L_in hv hL he hfl.1 rn Tr nA' x2
            have hL2 : km_L R T M (fun s => (sn' ||| 2 ^ r).testBit s = true) h ((e : Int) :: L) := ⟨hL1.1, hL1.2.1, hL1.2.2.1, fun s s1 s2 s3 => hL1.2.2.2 s s1 s2 (fun z => s3 ((ob s).2 z))⟩
            have okU : sk_ok (zU P 62 12 ((sn' ||| 2 ^ r : Nat) : Int)) R T Pl M (sn' ||| 2 ^ r) fd := oke M _ (zU_off 67 (by omega)) zU_eq (zU_ne (by omega)) (fun s hs => by rw [zU_off 69 (by omega)]; exact o4 s hs)
            refine ih (d - 1) _ (sn' ||| 2 ^ r) h ((e : Int) :: L) _ (by rw [List.length_cons]; omega) (by omega) okU x1 (hPl h x3) hL2 (fun P2 M2 k2 sn2 hP2 ok2 hs2 hg2 => zb1 ?_) (fun P2 sn2 hP2 e682 e692 ok2 hf2 => zb0 ?_)
            · obtain ⟨b1, b2, b3, b4⟩ := ok2
              refine h1 _ (fun x => if x = r then (e : Int) else M2 x) (k2 + 1) sn2 (((hP2.trans hP.s).u (by omega)).u (by omega)) ⟨by rw [zU_off 67 (by omega), zU_off 67 (by omega)]; exact b1, by rw [zU_off 62 (by omega), zU_off 62 (by omega)]; exact b2, by rw [zU_off 62 (by omega), zU_off 62 (by omega)]; exact b3, fun s hs => ?_⟩ ⟨r, rn, Tr, nA, adj, Or.inr ⟨h, (fun s => (sn' ||| 2 ^ r).testBit s = true), M2, x2, fun x hx => (ob x).2 (Or.inl (hfl.1 x hx)), (ob r).2 (Or.inr rfl), hs2, rfl⟩⟩ ?_
              · show _ = (if s = r then (e : Int) else M2 s)
                rw [zU_off 69 (by omega)]
                by_cases z : s = r
                · rw [if_pos z, z, zU_eq]
                · rw [zU_ne (by omega), if_neg z]
                  exact b4 s hs
              · have gg := km_g_1 (A := fun s => sn.testBit s = true) (e := e) rn Tr nA x2 (fun x hx => (ob x).2 (Or.inl (hfl.1 x hx))) ((ob r).2 (Or.inr rfl)) neh hg2
                have eb : (fun x : Nat => zU (zU P2 69 (r : Int) (e : Int)) 68 (e : Int) (r : Int) 68 (x : Int)) = fun x : Nat => if x = e then (r : Int) else P2 68 (x : Int) := by
                  funext y
                  by_cases z : y = e
                  · rw [z, zU_eq, if_pos rfl]
                  · rw [zU_ne (by omega), zU_off 68 (by omega), if_neg z]
                have eb2 : (fun x : Nat => zU P 62 12 ((sn' ||| 2 ^ r : Nat) : Int) 68 (x : Int)) = fun x : Nat => N 68 (x : Int) := by
                  funext y
                  rw [zU_off 68 (by omega), e68]
                rw [eb]
                rw [eb2] at gg
                exact gg
            · rw [zw_suc (by omega)]
              have hf3 : km_f R T M (fun s => sn'.testBit s = true ∨ s = r) (fun s => sn2.testBit s = true) h (rm_n R) := ⟨fun s hs => hf2.1 s ((ob s).2 hs), fun s s1 s2 s3 => (hf2.2.1 s s1 s2 s3).imp (fun z => (ob s).1 z) id, hf2.2.2⟩
              exact ih2 (i + 1) P2 sn2 (by omega) (hP2.trans hP.s) (by rw [e682, zU_off 68 (by omega)]; exact e68) (by rw [e692, zU_off 69 (by omega)]; exact e69) ok2 (km_f_mono (km_f_rec hflr x2 hf3) (by omega))
        · have m0 : m = 0 := by omega
          refine h0 P sn' hP e68 e69 ⟨o1, ⟨o2, o2b⟩, ⟨o3, o3b, o3c⟩, o4⟩ ⟨hfl.1, hfl.2.1, fun t _ t1 t2 t3 => shut t t1 (by rw [m0, Nat.zero_testBit]) t2 t3⟩
    exact loop 23 0 N sn (by omega) (zEse.refl N) rfl rfl ok km_f_0
end
