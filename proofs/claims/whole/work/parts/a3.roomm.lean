-- needs a2
/-! room: the reference seats one -/
theorem km_f_0 {R : zRm} {T : Nat → Bool} {M : Nat → Int} {A : Nat → Prop} {e : Nat} : km_f R T M A A e 0 := ⟨fun _ h => h, fun _ _ _ h => Or.inl h, fun t ht => by omega⟩
/-- the next stall was asked, or is nothing for it -/
theorem km_f_skip {R : zRm} {T : Nat → Bool} {M : Nat → Int} {A A' : Nat → Prop} {e i : Nat} (h : km_f R T M A A' e i) (hi : T i = true → rm_a R e i = true → A' i) : km_f R T M A A' e (i + 1) := by
  refine ⟨h.1, h.2.1, fun t ht t1 t2 t3 => ?_⟩
  by_cases q : t = i
  · rw [q] at t2 t3 ⊢
    exact hi t2 t3
  · exact h.2.2 t (by omega) t1 t2 t3
/-- the next one is kept by another -/
theorem km_f_mark {R : zRm} {T : Nat → Bool} {M : Nat → Int} {A A' : Nat → Prop} {e i : Nat} (h : km_f R T M A A' e i) (hi : T i = false) : km_f R T M A (fun s => A' s ∨ s = i) e (i + 1) := by
  refine ⟨fun s hs => Or.inl (h.1 s hs), fun s s1 s2 s3 => ?_, fun t ht t1 t2 t3 => ?_⟩
  · rcases s3 with s3 | s3
    · rcases h.2.1 s s1 s2 s3 with g | ⟨g1, g2⟩
      · exact Or.inl g
      · exact Or.inr ⟨g1, fun t t1 t2 t3 => Or.inl (g2 t t1 t2 t3)⟩
    · rw [s3, hi] at s2
      cases s2
  · by_cases q : t = i
    · exact Or.inr q
    · exact Or.inl (h.2.2 t (by omega) t1 t2 t3)
/-- the next one's holder cannot go on -/
theorem km_f_rec {R : zRm} {T : Nat → Bool} {M : Nat → Int} {A A' A2 : Nat → Prop} {e i h : Nat} (hf : km_f R T M A A' e i) (hM : M i = (h : Int)) (h2 : km_f R T M (fun s => A' s ∨ s = i) A2 h (rm_n R)) : km_f R T M A A2 e (i + 1) := by
  refine ⟨fun s hs => h2.1 s (Or.inl (hf.1 s hs)), fun s s1 s2 s3 => ?_, fun t ht t1 t2 t3 => ?_⟩
  · rcases h2.2.1 s s1 s2 s3 with (g | g) | g
    · rcases hf.2.1 s s1 s2 g with k | ⟨k1, k2⟩
      · exact Or.inl k
      · exact Or.inr ⟨k1, fun t t1 t2 t3 => h2.1 t (Or.inl (k2 t t1 t2 t3))⟩
    · rw [g, hM, show ((h : Int)).toNat = h from by omega]
      exact Or.inr ⟨by omega, fun t t1 t2 t3 => h2.2.2 t t1 t1 t2 t3⟩
    · exact Or.inr g
  · by_cases q : t = i
    · exact h2.1 t (Or.inr q)
    · exact h2.1 t (Or.inl (hf.2.2 t (by omega) t1 t2 t3))
/-- those on the way: the engines asked so far, none of them in a stall that is not asked yet -/
def km_L (R : zRm) (T : Nat → Bool) (M : Nat → Int) (A : Nat → Prop) (e : Nat) (L : List Int) : Prop := L.Nodup ∧ (∀ x ∈ L, 0 ≤ x ∧ x < 12) ∧ ¬ (e : Int) ∈ L ∧ ∀ s, s < rm_n R → T s = true → ¬ A s → ¬ M s ∈ L ∧ ¬ M s = (e : Int)
theorem km_L_len {R : zRm} {T : Nat → Bool} {M : Nat → Int} {A : Nat → Prop} {e : Nat} {L : List Int} (h : km_L R T M A e L) (he : e < 12) : L.length ≤ 11 := by
  have := l_le ((e : Int) :: L) ((List.range 12).map (fun x : Nat => (x : Int))) (List.nodup_cons.mpr ⟨h.2.2.1, h.1⟩) (fun x hx => by
    have b : 0 ≤ x ∧ x < 12 := by
      rcases List.mem_cons.1 hx with g | g
      · omega
      · exact h.2.1 x g
    exact List.mem_map.2 ⟨x.toNat, List.mem_range.2 (by omega), by omega⟩)
  rw [List.length_cons, List.length_map, List.length_range] at this
  omega
theorem km_L_in {R : zRm} {T : Nat → Bool} {Pd : Nat → Prop} {M : Nat → Int} {A A' : Nat → Prop} {e h i : Nat} {L : List Int} (hv : km_v R T Pd M) (hL : km_L R T M A e L) (he : e < 12) (sub : ∀ s, A s → A' s) (hi : i < rm_n R) (hT : T i = true) (hA : ¬ A' i) (hM : M i = (h : Int)) : km_L R T M (fun s => A' s ∨ s = i) h ((e : Int) :: L) := by
  obtain ⟨l1, l2, l3, l4⟩ := hL
  have li := l4 i hi hT (fun z => hA (sub i z))
  refine ⟨List.nodup_cons.mpr ⟨l3, l1⟩, fun x hx => ?_, fun hx => ?_, fun s s1 s2 s3 => ⟨fun hx => ?_, fun z => ?_⟩⟩
  · rcases List.mem_cons.1 hx with g | g
    · omega
    · exact l2 x g
  · rcases List.mem_cons.1 hx with g | g
    · exact li.2 (by omega)
    · exact li.1 (by rw [hM]; exact g)
  · have ls := l4 s s1 s2 (fun z => s3 (Or.inl (sub s z)))
    rcases List.mem_cons.1 hx with g | g
    · exact ls.2 g
    · exact ls.1 g
  · exact s3 (Or.inr (hv.2 i s hi s1 hT s2 (by omega) (by omega)).symm)
/-- the cells that seating writes -/
def zErm (μ' μ : zM) : Prop := (∀ j, ¬ (j = 119 ∨ j = 149 ∨ j = 150) → μ' j = μ j) ∧ ∀ i, ¬ (34 ≤ i ∧ i ≤ 40) → μ' 119 i = μ 119 i
theorem zErm.refl (μ : zM) : zErm μ μ := ⟨fun _ _ => rfl, fun _ _ => rfl⟩
theorem zErm.trans {a b c : zM} (h : zErm a b) (h' : zErm b c) : zErm a c := ⟨fun j hj => (h.1 j hj).trans (h'.1 j hj), fun i hi => (h.2 i hi).trans (h'.2 i hi)⟩
theorem zErm.u {a b : zM} {j : Nat} {i v : Int} (h : zErm a b) (hj : j = 149 ∨ j = 150) : zErm (zU a j i v) b := ⟨fun k hk => by rw [zU_off k (by omega)]; exact h.1 k hk, fun k hk => by rw [zU_off 119 (by omega)]; exact h.2 k hk⟩
theorem zErm.m {a b : zM} (h : zEm a b) : zErm a b := ⟨fun k hk => h.1 k (by omega), fun i hi => h.2 i hi⟩
def zAk (N : zM) (n : Nat) (A : Nat → Prop) : Prop := ∀ s : Nat, s < n → (N 150 (s : Int) = 0 ↔ ¬ A s)
theorem zAk_u {N : zM} {n i : Nat} {A : Nat → Prop} (h : zAk N n A) : zAk (zU N 150 (i : Int) 1) n (fun s => A s ∨ s = i) := fun s hs => by
  by_cases q : s = i
  · rw [q, zU_eq]
    exact ⟨fun z => by omega, fun z => absurd (Or.inr rfl) z⟩
  · rw [zU_ne (by omega), h s hs]
    exact ⟨fun z w => by rcases w with w | w; exact z w; exact q w, fun z w => z (Or.inl w)⟩
section
variable {g : zG} {μ : zM} {nn fx : Int} {S : zS}
theorem mS.rm {μ' : zM} (h : mS μ S) (e : zErm μ' μ) : mS μ' S := h.scr (fun j hj h9 => e.1 j (by unfold z_scm at hj; omega)) (fun i hi => e.2 i (by unfold z_scs at hi; omega))
theorem m_findsStall {R : zRm} {T : Nat → Bool} {Pd : Nat → Prop} {M : Nat → Int} (hI : iS nn S) (hn : S.1 13 0 = (rm_n R : Int)) (ha : ∀ x s : Nat, rm_a R x s = f_takes S.1 (s : Int) (x : Int)) (hPd : ∀ x : Nat, Pd x → (S.1 2 (x : Int) = -1 ∧ (x : Int) < S.1 13 3) ∧ fx < (x : Int)) (hv : km_v R T Pd M) (hT : ∀ s : Nat, s < rm_n R → T s = false → ¬ M s = -1 ∧ M s ≤ fx) :
    ∀ (f d : Nat) (N : zM) (A : Nat → Prop) (e : Nat) (L : List Int) (K : Option zV → zM → Prop), 12 ≤ L.length + f → 312 + f ≤ d → mS N S → (∀ s : Nat, s < rm_n R → N 149 (s : Int) = M s) → zAk N (rm_n R) A → e < 12 → (S.1 2 (e : Int) = -1 ∧ (e : Int) < S.1 13 3) → km_L R T M A e L →
      (∀ (N' : zM) (M' : Nat → Int) (k : Nat), zErm N' N → (∀ s : Nat, s < rm_n R → N' 149 (s : Int) = M' s) → km_s R T M k A e M' → K (some (.inl 1)) N') →
      (∀ (N' : zM) (A' : Nat → Prop), zErm N' N → (∀ s : Nat, s < rm_n R → N' 149 (s : Int) = M s) → zAk N' (rm_n R) A' → km_f R T M A A' e (rm_n R) → K (some (.inl 0)) N') → zCall g d 237 [.inr (.inr ((0, 12), 119)), .inl (e : Int), .inl fx] N K := by
  have w := hI.env
  intro f
  induction f with
  | zero =>
    intro d N A e L K hf hd hC h149 hA he hroad hL h1 h0
    have := km_L_len hL he
    omega
  | succ f ih =>
    intro d N A e L K hf hd hC h149 hA he hroad hL h1 h0
    refine sX12_findsStall ?_
    have loop : ∀ (k i : Nat) (P : zM) (A' : Nat → Prop), i + k = rm_n R → zErm P N → (∀ s : Nat, s < rm_n R → P 149 (s : Int) = M s) → zAk P (rm_n R) A' → km_f R T M A A' e i → zT g d mX12_findsStall K 2 [some (.inr (.inr ((0, 12), 119))), some (.inl (e : Int)), some (.inl fx), some (.inl (i : Int))] [] P := by
      intro k
      induction k with
      | zero =>
        intro i P A' hi hP hP149 hPA hfl
        have hCP := hC.rm hP
        have ev := hCP.env
        refine sX12_findsStall_2 ⟨fun _ => ?_, fun q => by omega⟩
        obtain rfl : i = rm_n R := by omega
        exact h0 P A' hP hP149 hPA hfl
      | succ k ih2 =>
        intro i P A' hi hP hP149 hPA hfl
        have hCP := hC.rm hP
        have ev := hCP.env
        have hin : i < rm_n R := by omega
        refine sX12_findsStall_2 ⟨fun q => by omega, fun _ => ⟨by omega, fun q => ?_, fun q => ⟨by omega, ?_⟩⟩⟩
        · rw [zw_suc (by omega)]
          refine ih2 (i + 1) P A' (by omega) hP hP149 hPA (km_f_skip hfl (fun _ _ => ?_))
          by_cases z : A' i
          · exact z
          · exact absurd ((hPA i hin).2 z) q
        · have nA : ¬ A' i := (hPA i hin).1 q
          have nA0 : ¬ A i := fun z => nA (hfl.1 i z)
          have mi := hP149 i hin
          have p130 : P 130 (e : Int) = -1 := by rw [(hCP.en (by omega)).1]; exact hroad.1
          refine m_isTaking (co := S.1 14) (cn := S.1 15 0) (by omega) (hCP.W hI) hCP.1.2.1 (by omega) (by omega) (fun P1 hP1 _ q3 => zb1 ?_) (fun P1 hP1 q3 => zb0 ?_)
          · rw [hCP.1.1] at q3
            have adj : rm_a R e i = true := by rw [ha]; exact q3
            have e149 : P1 149 = P 149 := hP1.1 149 (by omega)
            have e150 : P1 150 = P 150 := hP1.1 150 (by omega)
            have hP1' : zErm P1 N := (zErm.m hP1).trans hP
            have A1 : zAk P1 (rm_n R) A' := fun s hs => by rw [e150]; exact hPA s hs
            rw [e149, mi]
            refine ⟨fun q4 => ?_, fun q4 => ⟨fun q5 => ?_, fun q5 => ?_⟩⟩
            · have Ti : T i = true := by
                cases hb : T i
                · exact absurd q4 (hT i hin hb).1
                · rfl
              refine h1 _ (fun x => if x = i then (e : Int) else M x) 1 ((hP1'.u (by omega)).u (by omega)) (fun s hs => ?_) ⟨i, hin, Ti, nA0, adj, Or.inl ⟨q4, rfl⟩⟩
              by_cases z : s = i
              · rw [z, zU_eq, if_pos rfl]
              · rw [zU_ne (by omega), zU_off 149 (by omega), e149, if_neg z]
                exact hP149 s hs
            · have Ti : T i = false := by
                cases hb : T i
                · rfl
                · rcases hv.1 i hin hb with z | ⟨x, _, x2, x3, _⟩
                  · exact absurd z q4
                  · have := (hPd x x3).2
                    omega
              rw [zw_suc (by omega)]
              exact ih2 (i + 1) _ _ (by omega) (hP1'.u (by omega)) (fun s hs => by rw [zU_off 149 (by omega), e149]; exact hP149 s hs) (zAk_u A1) (km_f_mark hfl Ti)
            · have Ti : T i = true := by
                cases hb : T i
                · have := (hT i hin hb).2
                  omega
                · rfl
              obtain ⟨h, x1, x2, x3, x4⟩ := (hv.1 i hin Ti).resolve_left q4
              rw [x2]
              have hC2 : mS (zU P1 150 (i : Int) 1) S := hC.rm (hP1'.u (by omega))
              refine ih (d - 1) _ (fun s => A' s ∨ s = i) h ((e : Int) :: L) _ (by rw [List.length_cons]; omega) (by omega) hC2 (fun s hs => by rw [zU_off 149 (by omega), e149]; exact hP149 s hs) (zAk_u A1) x1 (hPd h x3).1 (km_L_in hv hL he hfl.1 hin Ti nA x2) (fun P2 M2 k2 hP2 h2 hs2 => zb1 ?_) (fun P2 A2 hP2 h2 hA2 hf2 => zb0 ?_)
              · refine h1 _ (fun x => if x = i then (e : Int) else M2 x) (k2 + 1) ((hP2.trans (hP1'.u (by omega))).u (by omega)) (fun s hs => ?_) ⟨i, hin, Ti, nA0, adj, Or.inr ⟨h, (fun s => A' s ∨ s = i), M2, x2, fun x hx => Or.inl (hfl.1 x hx), Or.inr rfl, hs2, rfl⟩⟩
                by_cases z : s = i
                · rw [z, zU_eq, if_pos rfl]
                · rw [zU_ne (by omega), if_neg z]
                  exact h2 s hs
              · rw [zw_suc (by omega)]
                exact ih2 (i + 1) P2 A2 (by omega) (hP2.trans (hP1'.u (by omega))) h2 hA2 (km_f_rec hfl x2 hf2)
          · rw [hCP.1.1, p130] at q3
            have adj : rm_a R e i = false := by
              rw [ha]
              rcases q3 with q3 | q3
              · omega
              · exact q3
            rw [zw_suc (by omega)]
            refine ih2 (i + 1) P1 A' (by omega) ((zErm.m hP1).trans hP) (fun s hs => by rw [hP1.1 149 (by omega)]; exact hP149 s hs) (fun s hs => by rw [hP1.1 150 (by omega)]; exact hPA s hs) (km_f_skip hfl (fun _ z => by rw [adj] at z; cases z))
    exact loop (rm_n R) 0 N A (by omega) (zErm.refl N) h149 hA km_f_0
end
