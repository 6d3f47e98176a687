-- needs 50 51 52 53
/-! rows told; operations: shut, set, steps, light, drop, dead, pass, coal, wants, end -/
def zE18 (μ' μ : zM) : Prop := ∀ j, ¬ (j = 18 ∨ j = 19) → μ' j = μ j
theorem zE18.refl (μ : zM) : zE18 μ μ := fun _ _ => rfl
theorem zE18.trans {a b c : zM} (h : zE18 a b) (h' : zE18 b c) : zE18 a c := fun j hj => (h j hj).trans (h' j hj)
/-- the reference's row -/
def zE32 (μ' μ : zM) : Prop := (∀ j, ¬ (j = 119 ∨ j = 140) → μ' j = μ j) ∧ ∀ i, ¬ i = 32 → μ' 119 i = μ 119 i
theorem zE32.refl (μ : zM) : zE32 μ μ := ⟨fun _ _ => rfl, fun _ _ => rfl⟩
theorem zE32.trans {a b c : zM} (h : zE32 a b) (h' : zE32 b c) : zE32 a c := ⟨fun j hj => (h.1 j hj).trans (h'.1 j hj), fun i hi => (h.2 i hi).trans (h'.2 i hi)⟩
section
variable {g : zG} {d : Nat} {K : Option zV → zM → Prop} {μ μ' : zM} {r : List Int} {S : zS} {n x y z b : Int}
theorem c_emptyR (h : ∀ μ', zE18 μ' μ → cR μ' [] → K none μ') : zCall g d 42 [.inr (.inr ((0, 5), 18))] μ K :=
  c_empty (h _ (fun j hj => zU_off j (by omega)) ⟨zU_eq, zli_nil _⟩)
theorem c_tellR (hR : cR μ r) (hr : r.length < 12) (h : ∀ μ', zE18 μ' μ → cR μ' (r ++ [x]) → K none μ') : zCall g d 43 [.inr (.inr ((0, 5), 18)), .inl x] μ K := by
  obtain ⟨h1, h2⟩ := hR
  refine c_tell (by omega) (h _ (fun j hj => by rw [zU_off j (by omega), zU_off j (by omega)]) ⟨?_, ?_⟩)
  · rw [zU_eq, h1]; simp
  · rw [zU_off 19 (by omega), zU_row, h1]
    exact zli_snoc h2
theorem c_tellOneR (hd : 1 ≤ d) (h : ∀ μ', zE18 μ' μ → cR μ' [x] → K none μ') : zCall g d 44 [.inr (.inr ((0, 5), 18)), .inl x] μ K := by
  refine sX5_tellOne ⟨hd, c_emptyR (fun M hM hr => zn (c_tellR hr (by simp) (fun N hN hr2 => zn (h N (hN.trans hM) hr2))))⟩
theorem c_tellTwoR (hd : 1 ≤ d) (h : ∀ μ', zE18 μ' μ → cR μ' [x, y] → K none μ') : zCall g d 45 [.inr (.inr ((0, 5), 18)), .inl x, .inl y] μ K := by
  refine sX5_tellTwo ⟨hd, c_emptyR (fun M hM hr => zn (c_tellR hr (by simp) (fun N hN hr2 => zn (c_tellR hr2 (by simp) (fun P hP hr3 => zn (h P ((hP.trans hN).trans hM) hr3))))))⟩
theorem mR_0 : mR (zU μ 119 32 0) [] := ⟨zU_eq, zli_nil _⟩
theorem zE32_0 : zE32 (zU μ 119 32 x) μ := ⟨fun j hj => zU_off j (by omega), fun i hi => zU_ne (by omega)⟩
theorem m_tellR (hR : mR μ r) (hr : r.length < 16) (h : ∀ μ', zE32 μ' μ → mR μ' (r ++ [x]) → K none μ') : zCall g d 163 [.inr (.inr ((0, 12), 119)), .inl x] μ K := by
  obtain ⟨h1, h2⟩ := hR
  refine sX12_tell ⟨by omega, ?_⟩
  rw [zwi (x := μ 119 32 + 1) (by omega) (by omega)]
  refine h _ ⟨fun j hj => by rw [zU_off j (by omega), zU_off j (by omega)], fun i hi => by rw [zU_ne (by omega), zU_ne (by omega)]⟩ ⟨?_, ?_⟩
  · rw [zU_eq, h1]; simp
  · rw [zU_off 140 (by omega), zU_row, h1]
    exact zli_snoc h2
theorem cS.row (h : cS μ S) (e : ∀ j, ¬ z_scr j → ¬ (j = 18 ∨ j = 19) → μ' j = μ j) (hr : cR μ' r) : cS μ' (sR S r) := cC.row h e hr
theorem cS.scr (h : cS μ S) (e : ∀ j, ¬ z_scr j → μ' j = μ j) : cS μ' S := cC.same h e
theorem mS.row (h : mS μ S) (e : ∀ j, ¬ z_scm j → ¬ (j = 119 ∨ j = 140) → μ' j = μ j) (e2 : ∀ i, ¬ z_scs i → ¬ i = 32 → μ' 119 i = μ 119 i) (hr : mR μ' r) : mS μ' (sR S r) := mC.row h e e2 hr
theorem cO.xx {X X' : zM} (h : cO μ X) (e : ∀ k, k ≤ 3 → X' k = X k) : cO μ X' := by
  unfold cO at *
  rw [e 0 (by omega), e 1 (by omega), e 2 (by omega), e 3 (by omega)]; exact h
theorem cN.xx {X X' : zM} (h : cN μ X) (e : ∀ k, 4 ≤ k ∧ k ≤ 8 → X' k = X k) : cN μ X' := by
  unfold cN at *
  rw [e 4 (by omega), e 5 (by omega), e 6 (by omega), e 7 (by omega), e 8 (by omega)]; exact h
theorem cK.xx {X X' : zM} (h : cK μ X) (e : ∀ k, 8 ≤ k → X' k = X k) : cK μ X' := by
  refine ⟨by rw [e 8 (by omega)]; exact h.1, fun i hi => ⟨by rw [e 9 (by omega)]; exact (h.2 i hi).1, fun q => ?_⟩⟩
  rw [e 9 (by omega)] at q
  have := (h.2 i hi).2 q
  rw [e (10 + 6 * i + 4) (by omega)]
  exact ⟨this.1, fun k hk => by rw [e (10 + 6 * i + k) (by omega)]; exact this.2 k hk⟩
theorem mO.xx {X X' : zM} (h : mO μ X) (e : ∀ k, k ≤ 3 → X' k = X k) : mO μ X' := by
  unfold mO at *
  rw [e 0 (by omega), e 1 (by omega), e 2 (by omega), e 3 (by omega)]; exact h
theorem mN.xx {X X' : zM} (h : mN μ X) (e : ∀ k, 4 ≤ k ∧ k ≤ 8 → X' k = X k) : mN μ X' := by
  unfold mN at *
  rw [e 4 (by omega), e 5 (by omega), e 6 (by omega), e 7 (by omega), e 8 (by omega)]; exact h
theorem mK.xx {X X' : zM} {m : Int} (h : mK μ m X) (e : ∀ k, 8 ≤ k → X' k = X k) : mK μ m X' := by
  refine ⟨by rw [e 8 (by omega)]; exact h.1, fun i hi => ⟨by rw [e 9 (by omega)]; exact (h.2 i hi).1, fun q k hk => ?_⟩⟩
  rw [e 9 (by omega), e 8 (by omega)] at q
  rw [e (10 + 6 * i + k) (by omega)]
  exact (h.2 i hi).2 q k hk
theorem cS.o {X : zM} (h : cS μ S) (e : ∀ j, ¬ (j = 71 ∨ j = 72 ∨ j = 10 ∨ j = 11) → ¬ z_scr j → μ' j = μ j) (hO : cO μ' X) (hX : ∀ k, 4 ≤ k → X k = zX S k) : cS μ' (sX S X) := by
  unfold z_scr at e
  obtain ⟨h1, h2, h3, h4, h5, h6, h7⟩ := h
  exact ⟨h1.same (fun j hj => e j (by omega) (by omega)), h2.same (by rw [e 12 (by omega) (by omega)]) (e 13 (by omega) (by omega)), h3.same (by rw [e 18 (by omega) (by omega)]) (e 19 (by omega) (by omega)), h4.same (by rw [e 62 (by omega) (by omega)]) (by rw [e 62 (by omega) (by omega)]) (e 63 (by omega) (by omega)) (e 64 (by omega) (by omega)), hO, (h6.same (by rw [e 78 (by omega) (by omega)]) (fun j _ _ => e j (by omega) (by omega))).xx (fun k hk => hX k (by omega)), (h7.same (by rw [e 0 (by omega) (by omega)]) (fun j _ _ => e j (by omega) (by omega))).xx (fun k hk => hX k (by omega))⟩
theorem mS.o {X : zM} (h : mS μ S) (e : ∀ j, ¬ (j = 119 ∨ (151 ≤ j ∧ j ≤ 155)) → ¬ z_scm j → μ' j = μ j) (e2 : ∀ i, ¬ z_scs i → μ' 119 i = μ 119 i) (hO : mO μ' X) (hX : ∀ k, 4 ≤ k → X k = zX S k) : mS μ' (sX S X) := by
  unfold z_scm at e
  unfold z_scs at e2
  obtain ⟨h1, h2, h3, h4, h5, h6, h7⟩ := h
  exact ⟨h1.same (fun j _ _ => e j (by omega) (by omega)) (fun i hi => e2 i (by omega)) (e 138 (by omega) (by omega)), h2.same (e2 30 (by omega)) (e 139 (by omega) (by omega)), h3.same (e2 32 (by omega)) (e 140 (by omega) (by omega)), h4.same (e2 23 (by omega)) (e2 25 (by omega)) (e 136 (by omega) (by omega)) (e 137 (by omega) (by omega)), hO, (h6.same (e2 18 (by omega)) (fun j _ _ => e j (by omega) (by omega))).xx (fun k hk => hX k (by omega)), (h7.same (e2 74 (by omega)) (fun j _ _ => e j (by omega) (by omega))).xx (fun k hk => hX k (by omega))⟩
theorem cS.tr {X : zM} (h : cS μ S) (e : ∀ j, ¬ (78 ≤ j ∧ j ≤ 83) → ¬ z_scr j → μ' j = μ j) (hN : cN μ' X) (hX : ∀ k, k ≤ 3 ∨ 9 ≤ k → X k = zX S k) (h8 : X 8 1 = zX S 8 1) : cS μ' (sX S X) := by
  unfold z_scr at e
  obtain ⟨h1, h2, h3, h4, h5, h6, h7⟩ := h
  have hk := h7.same (μ' := μ') (by rw [e 0 (by omega) (by omega)]) (fun j _ _ => e j (by omega) (by omega))
  refine ⟨h1.same (fun j hj => e j (by omega) (by omega)), h2.same (by rw [e 12 (by omega) (by omega)]) (e 13 (by omega) (by omega)), h3.same (by rw [e 18 (by omega) (by omega)]) (e 19 (by omega) (by omega)), h4.same (by rw [e 62 (by omega) (by omega)]) (by rw [e 62 (by omega) (by omega)]) (e 63 (by omega) (by omega)) (e 64 (by omega) (by omega)), (h5.same (e 71 (by omega) (by omega)) (e 72 (by omega) (by omega)) (e 10 (by omega) (by omega)) (e 11 (by omega) (by omega))).xx (fun k hk => hX k (by omega)), hN, hk.1.trans h8.symm, fun i hi => ?_⟩
  have := hk.2 i hi
  show μ' 103 (i : Int) = X 9 (i : Int) ∧ (¬ X 9 (i : Int) = -1 → _ = z_dd (X (10 + 6 * i + 4)) ∧ ∀ k : Nat, k < 6 → _ = X (10 + 6 * i + k))
  rw [hX 9 (by omega), hX (10 + 6 * i + 4) (by omega)]
  refine ⟨this.1, fun q => ⟨(this.2 q).1, fun k hk => ?_⟩⟩
  rw [hX (10 + 6 * i + k) (by omega)]
  exact (this.2 q).2 k hk
theorem mS.tr {X : zM} (h : mS μ S) (e : ∀ j, ¬ (j = 119 ∨ (132 ≤ j ∧ j ≤ 135)) → ¬ z_scm j → μ' j = μ j) (e2 : ∀ i, ¬ i = 18 → ¬ z_scs i → μ' 119 i = μ 119 i) (hN : mN μ' X) (hX : ∀ k, k ≤ 3 ∨ 9 ≤ k → X k = zX S k) (h8 : X 8 1 = zX S 8 1) : mS μ' (sX S X) := by
  unfold z_scm at e
  unfold z_scs at e2
  obtain ⟨h1, h2, h3, h4, h5, h6, h7⟩ := h
  have hk := h7.same (μ' := μ') (e2 74 (by omega) (by omega)) (fun j _ _ => e j (by omega) (by omega))
  refine ⟨h1.same (fun j _ _ => e j (by omega) (by omega)) (fun i hi => e2 i (by omega) (by omega)) (e 138 (by omega) (by omega)), h2.same (e2 30 (by omega) (by omega)) (e 139 (by omega) (by omega)), h3.same (e2 32 (by omega) (by omega)) (e 140 (by omega) (by omega)), h4.same (e2 23 (by omega) (by omega)) (e2 25 (by omega) (by omega)) (e 136 (by omega) (by omega)) (e 137 (by omega) (by omega)), (h5.same (fun j _ _ => e j (by omega) (by omega))).xx (fun k hk => hX k (by omega)), hN, hk.1.trans h8.symm, fun i hi => ?_⟩
  have := hk.2 i hi
  show ((_ ∧ ¬ X 9 (i : Int) = -1 ∧ _ = X 9 (i : Int)) ∨ (_ ∧ X 9 (i : Int) = -1)) ∧ (X 9 (i : Int) = X 8 1 → ∀ k : Nat, k < 6 → _ = X (10 + 6 * i + k))
  rw [hX 9 (by omega), h8]
  refine ⟨this.1, fun q k hk => ?_⟩
  rw [hX (10 + 6 * i + k) (by omega)]
  exact this.2 q k hk
def o_shut (S : zS) (x b : Int) : Int × zS := if 0 ≤ x ∧ x < S.1 13 0 then (1, sY S (zU S.1 8 x b)) else (0, S)
theorem C_shut (hd : 1 ≤ d) (hb : b = 0 ∨ b = 1) (hC : cS μ S) (hI : iS n S) (h : ∀ μ', zEc μ' μ → cS μ' (o_shut S x b).2 → K (some (.inl (o_shut S x b).1)) μ') : zCall g d 111 [.inr (.inr ((0, 11), 0)), .inl x, .inl b] μ K := by
  have w := hI.env
  have e := hC.env
  unfold o_shut at h
  rw [← e.1] at h
  refine sX11_shut ⟨hd, c_hasStall (fun q => zb1 ⟨by omega, hb, ?_⟩) (fun q => zb0 ?_)⟩
  · rw [if_pos q] at h
    exact h _ ((zEc.refl μ).u (by omega)) (hC.yard (hC.1.u (vE8 hC.1.2.1 (by omega)) (by omega) (by omega) (by omega)) (fun j hj _ => zU_off j (by omega)))
  · rw [if_neg q] at h
    exact h _ (zEc.refl μ) hC
theorem M_shut (hd : 2 ≤ d) (hb : b = 0 ∨ b = 1) (hC : mS μ S) (hI : iS n S) (h : ∀ μ', zEd μ' μ → mS μ' (o_shut S x b).2 → K (some (.inl (o_shut S x b).1)) μ') : zCall g d 174 [.inr (.inr ((0, 12), 119)), .inl x, .inl b] μ K := by
  have w := hI.env
  have hC0 : mS (zU μ 119 33 0) S := hC.thr
  have e := hC0.env
  have hE : zEd (zU μ 119 33 0) μ := (zEd.refl μ).u (by omega)
  unfold o_shut at h
  rw [← e.1] at h
  refine sX12_shut ⟨by omega, m_isStall (by omega) (by omega) (fun q => zb1 ⟨by omega, hb, ?_⟩) (fun q => zb0 ?_)⟩
  · rw [if_pos q] at h
    exact h _ (hE.u (by omega)) (hC0.yard (hC0.1.u (mE8 (by omega)) (by omega) (by omega)) (fun j hj _ => zU_off j (by omega)) (fun i _ _ => zU_ne (by omega)))
  · rw [if_neg q] at h
    exact h _ hE hC0
def o_set (S : zS) (x y : Int) : Int × zS := if x = 0 ∧ 1 ≤ y ∧ y ≤ 9 then (S.1 13 1, sY S (zU S.1 13 1 y)) else if x = 1 ∧ 0 ≤ y ∧ y ≤ 9 then (S.1 13 2, sY S (zU S.1 13 2 y)) else (-1, S)
theorem C_set (hC : cS μ S) (h : ∀ μ', zEc μ' μ → cS μ' (o_set S x y).2 → K (some (.inl (o_set S x y).1)) μ') : zCall g d 112 [.inr (.inr ((0, 11), 0)), .inl x, .inl y] μ K := by
  have e := hC.env
  have no : ¬ (x = 0 ∧ 1 ≤ y ∧ y ≤ 9) → ¬ (x = 1 ∧ 0 ≤ y ∧ y ≤ 9) → K (some (.inl (-1))) μ := by
    intro q1 q2
    unfold o_set at h
    rw [if_neg q1, if_neg q2] at h
    exact h _ (zEc.refl μ) hC
  have one : x = 1 → 0 ≤ y → y ≤ 9 → K (some (.inl (μ 1 2))) (zU μ 1 2 y) := by
    intro q1 q2 q3
    unfold o_set at h
    rw [if_neg (by omega), if_pos (by omega)] at h
    rw [e.2.2.1]
    exact h _ ((zEc.refl μ).u (by omega)) (hC.yard (hC.1.u (vE13 hC.1.2.1 (by omega)) (by omega) (by omega) (by omega)) (fun j hj _ => zU_off j (by omega)))
  have zero : x = 0 → 1 ≤ y → y ≤ 9 → K (some (.inl (μ 1 1))) (zU μ 1 1 y) := by
    intro q1 q2 q3
    unfold o_set at h
    rw [if_pos (by omega)] at h
    rw [e.2.1]
    exact h _ ((zEc.refl μ).u (by omega)) (hC.yard (hC.1.u (vE13 hC.1.2.1 (by omega)) (by omega) (by omega) (by omega)) (fun j hj _ => zU_off j (by omega)))
  refine sX11_set ⟨fun q => ⟨fun q1 => no (by omega) (by omega), fun q1 => ⟨fun q2 => no (by omega) (by omega), fun q2 => ⟨fun q3 => no (by omega) (by omega), fun q3 => one q1 q2 q3⟩⟩⟩, fun q => ⟨fun q2 => ⟨fun q1 => no (by omega) (by omega), fun q1 => by omega⟩, fun q2 => ⟨fun q3 => ⟨fun q1 => no (by omega) (by omega), fun q1 => by omega⟩, fun q3 => zero q q2 q3⟩⟩⟩
theorem M_set (hd : 1 ≤ d) (hC : mS μ S) (h : ∀ μ', zEd μ' μ → mS μ' (o_set S x y).2 → K (some (.inl (o_set S x y).1)) μ') : zCall g d 175 [.inr (.inr ((0, 12), 119)), .inl x, .inl y] μ K := by
  have hC0 : mS (zU μ 119 33 0) S := hC.thr
  have e := hC0.env
  have hE : zEd (zU μ 119 33 0) μ := (zEd.refl μ).u (by omega)
  have no : ¬ (x = 0 ∧ 1 ≤ y ∧ y ≤ 9) → ¬ (x = 1 ∧ 0 ≤ y ∧ y ≤ 9) → K (some (.inl (-1))) (zU μ 119 33 0) := by
    intro q1 q2
    unfold o_set at h
    rw [if_neg q1, if_neg q2] at h
    exact h _ hE hC0
  refine sX12_set ⟨hd, m_in (fun q => zb1 ⟨fun q1 => ?_, fun q1 => ?_⟩) (fun q => zb0 (no (by omega) (by omega)))⟩
  · refine sX12_set_24 ⟨hd, m_in (fun q2 => zb1 ⟨fun _ => ?_, fun q3 => absurd q3 q1⟩) (fun q2 => zb0 (no (by omega) (by omega)))⟩
    unfold o_set at h
    rw [if_neg (by omega), if_pos (by omega)] at h
    rw [e.2.2.1]
    exact h _ (hE.u (by omega)) (hC0.yard (hC0.1.u mE13_2 (by omega) (by omega)) (fun j hj _ => zU_off j (by omega)) (fun i _ _ => zU_ne (by omega)))
  · refine sX12_set_24 ⟨hd, m_in (fun q2 => zb1 ⟨fun q3 => absurd q1 q3, fun _ => ?_⟩) (fun q2 => zb0 (no (by omega) (by omega)))⟩
    unfold o_set at h
    rw [if_pos (by omega)] at h
    rw [e.2.1]
    exact h _ (hE.u (by omega)) (hC0.yard (hC0.1.u mE13_1 (by omega) (by omega)) (fun j hj _ => zU_off j (by omega)) (fun i _ _ => zU_ne (by omega)))
def o_steps (S : zS) (x y : Int) : Int × zS := (if (0 ≤ x ∧ x ≤ S.1 13 0) ∧ 0 ≤ y ∧ y ≤ S.1 13 0 then f_steps (S.1 13 0) x y else -1, S)
theorem C_steps (hd : 1 ≤ d) (hC : cS μ S) (hI : iS n S) (h : ∀ μ', zEc μ' μ → cS μ' (o_steps S x y).2 → K (some (.inl (o_steps S x y).1)) μ') : zCall g d 113 [.inr (.inr ((0, 11), 0)), .inl x, .inl y] μ K := by
  have w := hI.env
  have e := hC.env
  have h := h μ (zEc.refl μ) hC
  unfold o_steps at h
  rw [← e.1] at h
  refine sX11_steps ⟨hd, c_hasPoint (fun q => zb1 (c_hasPoint (fun q2 => zb1 (c_steps (by omega) (by omega) (by omega) (zi ?_))) (fun q2 => zb0 ?_))) (fun q => zb0 ?_)⟩
  · simp only [if_pos (And.intro q q2)] at h; exact h
  · simp only [if_neg (fun hh : _ ∧ _ => q2 hh.2)] at h; exact h
  · simp only [if_neg (fun hh : _ ∧ _ => q hh.1)] at h; exact h
theorem M_steps (hd : 2 ≤ d) (hC : mS μ S) (hI : iS n S) (h : ∀ μ', zEd μ' μ → mS μ' (o_steps S x y).2 → K (some (.inl (o_steps S x y).1)) μ') : zCall g d 177 [.inr (.inr ((0, 12), 119)), .inl x, .inl y] μ K := by
  have w := hI.env
  have hC0 : mS (zU μ 119 33 0) S := hC.thr
  have e := hC0.env
  have h := h _ ((zEd.refl μ).u (by omega)) hC0
  unfold o_steps at h
  rw [← e.1] at h
  refine sX12_steps ⟨by omega, m_isPoint (by omega) (fun q => zb1 (m_isPoint (by omega) (fun q2 => zb1 (m_steps (by omega) (by omega) (by omega) (by omega) (zi ?_))) (fun q2 => zb0 ?_))) (fun q => zb0 ?_)⟩
  · simp only [if_pos (And.intro q q2)] at h; exact h
  · simp only [if_neg (fun hh : _ ∧ _ => q2 hh.2)] at h; exact h
  · simp only [if_neg (fun hh : _ ∧ _ => q hh.1)] at h; exact h
def o_light (S : zS) (x : Int) : Int × zS := if (0 ≤ x ∧ x < S.1 13 3) ∧ S.1 3 x = -1 then (1, sY S (zU S.1 3 x (S.1 5 1))) else (0, S)
theorem C_light (hd : 1 ≤ d) (hC : cS μ S) (hI : iS n S) (h : ∀ μ', zEc μ' μ → cS μ' (o_light S x).2 → K (some (.inl (o_light S x).1)) μ') : zCall g d 118 [.inr (.inr ((0, 11), 0)), .inl x] μ K := by
  have w := hI.env
  have e := hC.env
  unfold o_light at h
  rw [← e.2.2.2.1] at h
  refine sX11_light ⟨hd, c_has (fun q => zb1 ⟨by omega, fun q2 => ?_, fun q2 => ?_⟩) (fun q => zb0 ?_)⟩
  · rw [if_pos ⟨q, by rw [← (hC.en (by omega)).2.1]; exact q2⟩] at h
    rw [e.2.2.2.2.2]
    exact h _ ((zEc.refl μ).u (by omega)) (hC.yard (hC.1.u (vU4 (s := 20) hC.1.2.1 (by omega) (by omega)) (by omega) (by omega) (by omega)) (fun j hj _ => zU_off j (by omega)))
  · rw [if_neg (fun hh => q2 (by rw [(hC.en (by omega)).2.1]; exact hh.2))] at h
    exact h _ (zEc.refl μ) hC
  · rw [if_neg (fun hh => q hh.1)] at h
    exact h _ (zEc.refl μ) hC
theorem M_light (hd : 2 ≤ d) (hC : mS μ S) (hI : iS n S) (h : ∀ μ', zEd μ' μ → mS μ' (o_light S x).2 → K (some (.inl (o_light S x).1)) μ') : zCall g d 195 [.inr (.inr ((0, 12), 119)), .inl x] μ K := by
  have w := hI.env
  have hC0 : mS (zU μ 119 33 0) S := hC.thr
  have e := hC0.env
  have hE : zEd (zU μ 119 33 0) μ := (zEd.refl μ).u (by omega)
  unfold o_light at h
  rw [← e.2.2.2.1] at h
  refine sX12_light ⟨by omega, m_isEngine (by omega) (by omega) (fun q => zb1 ⟨by omega, fun q2 => ?_, fun q2 => ?_⟩) (fun q => zb0 ?_)⟩
  · rw [if_pos ⟨q, by rw [← (hC0.en (by omega)).2.1]; exact q2⟩] at h
    rw [e.2.2.2.2.2]
    exact h _ (hE.u (by omega)) (hC0.yard (hC0.1.u (mU4 (by omega)) (by omega) (by omega)) (fun j hj _ => zU_off j (by omega)) (fun i _ _ => zU_ne (by omega)))
  · rw [if_neg (fun hh => q2 (by rw [(hC0.en (by omega)).2.1]; exact hh.2))] at h
    exact h _ hE hC0
  · rw [if_neg (fun hh => q hh.1)] at h
    exact h _ hE hC0
def o_drop (S : zS) (x : Int) : Int × zS := if (0 ≤ x ∧ x < S.1 13 3) ∧ ¬ S.1 3 x = -1 then (S.1 5 1 - S.1 3 x, sY S (zU S.1 3 x (-1))) else (-1, S)
theorem C_drop (hd : 1 ≤ d) (hC : cS μ S) (hI : iS n S) (h : ∀ μ', zEc μ' μ → cS μ' (o_drop S x).2 → K (some (.inl (o_drop S x).1)) μ') : zCall g d 119 [.inr (.inr ((0, 11), 0)), .inl x] μ K := by
  have w := hI.env
  have nw := hI.now
  have e := hC.env
  unfold o_drop at h
  rw [← e.2.2.2.1] at h
  refine sX11_drop ⟨hd, c_has (fun q => zb1 ⟨by omega, fun q2 => ?_, fun q2 => ?_⟩) (fun q => zb0 ?_)⟩
  · have a := (hC.en (e := x) (by omega)).2.1
    have b := hI.W.2.2.2 x (by omega)
    rw [if_pos ⟨q, by rw [← a]; exact q2⟩] at h
    rw [zwi (x := μ 20 1 - μ 24 x) (by omega) (by omega), e.2.2.2.2.2, a]
    exact h _ ((zEc.refl μ).u (by omega)) (hC.yard (hC.1.u (vU4 (s := 20) hC.1.2.1 (by omega) (by omega)) (by omega) (by omega) (by omega)) (fun j hj _ => zU_off j (by omega)))
  · rw [if_neg (fun hh => hh.2 (by rw [← (hC.en (by omega)).2.1]; exact q2))] at h
    exact h _ (zEc.refl μ) hC
  · rw [if_neg (fun hh => q hh.1)] at h
    exact h _ (zEc.refl μ) hC
theorem M_drop (hd : 2 ≤ d) (hC : mS μ S) (hI : iS n S) (h : ∀ μ', zEd μ' μ → mS μ' (o_drop S x).2 → K (some (.inl (o_drop S x).1)) μ') : zCall g d 196 [.inr (.inr ((0, 12), 119)), .inl x] μ K := by
  have w := hI.env
  have nw := hI.now
  have hC0 : mS (zU μ 119 33 0) S := hC.thr
  have e := hC0.env
  have hE : zEd (zU μ 119 33 0) μ := (zEd.refl μ).u (by omega)
  unfold o_drop at h
  rw [← e.2.2.2.1] at h
  refine sX12_drop ⟨by omega, m_isEngine (by omega) (by omega) (fun q => zb1 ⟨by omega, fun q2 => ?_, fun q2 => ?_⟩) (fun q => zb0 ?_)⟩
  · have a := (hC0.en (e := x) (by omega)).2.1
    have b := hI.W.2.2.2 x (by omega)
    rw [if_pos ⟨q, by rw [← a]; exact q2⟩] at h
    rw [zwi (x := zU μ 119 33 0 119 15 - zU μ 119 33 0 131 x) (by omega) (by omega), e.2.2.2.2.2, a]
    exact h _ (hE.u (by omega)) (hC0.yard (hC0.1.u (mU4 (by omega)) (by omega) (by omega)) (fun j hj _ => zU_off j (by omega)) (fun i _ _ => zU_ne (by omega)))
  · rw [if_neg (fun hh => hh.2 (by rw [← (hC0.en (by omega)).2.1]; exact q2))] at h
    exact h _ hE hC0
  · rw [if_neg (fun hh => q hh.1)] at h
    exact h _ hE hC0
def o_pass (S : zS) (x : Int) : Int × zS := if 0 ≤ x ∧ x ≤ 600 then (S.1 5 1 + x, sY S (zU S.1 5 1 (S.1 5 1 + x))) else (-1, S)
theorem C_pass (hC : cS μ S) (hI : iS n S) (h : ∀ μ', zEc μ' μ → cS μ' (o_pass S x).2 → K (some (.inl (o_pass S x).1)) μ') : zCall g d 124 [.inr (.inr ((0, 11), 0)), .inl x] μ K := by
  have w := hI.env
  have nw := hI.now
  have e := hC.env
  unfold o_pass at h
  refine sX11_pass ⟨fun q => ?_, fun q => ⟨fun q2 => ?_, fun q2 => ?_⟩⟩
  · rw [if_neg (by omega)] at h
    exact h _ (zEc.refl μ) hC
  · rw [if_pos (by omega)] at h
    rw [zwi (x := μ 20 1 + x) (by omega) (by omega), e.2.2.2.2.2]
    exact h _ ((zEc.refl μ).u (by omega)) (hC.yard (hC.1.u (vU5 (s := 20) hC.1.2.1 (by omega) (by omega)) (by omega) (by omega) (by omega)) (fun j hj _ => zU_off j (by omega)))
  · rw [if_neg (by omega)] at h
    exact h _ (zEc.refl μ) hC
theorem M_pass (hd : 1 ≤ d) (hC : mS μ S) (hI : iS n S) (h : ∀ μ', zEd μ' μ → mS μ' (o_pass S x).2 → K (some (.inl (o_pass S x).1)) μ') : zCall g d 207 [.inr (.inr ((0, 12), 119)), .inl x] μ K := by
  have w := hI.env
  have nw := hI.now
  have hC0 : mS (zU μ 119 33 0) S := hC.thr
  have e := hC0.env
  have hE : zEd (zU μ 119 33 0) μ := (zEd.refl μ).u (by omega)
  unfold o_pass at h
  refine sX12_pass ⟨hd, m_in (fun q => zb1 ?_) (fun q => zb0 ?_)⟩
  · rw [if_pos q] at h
    rw [zwi (x := zU μ 119 33 0 119 15 + x) (by omega) (by omega), e.2.2.2.2.2]
    refine h _ (hE.u (by omega)) (hC0.yard (hC0.1.u (mU5 (i := 1) (by omega)) (by omega) (by omega)) (fun j hj _ => zU_off j (by omega)) (fun i _ _ => zU_ne (by omega)))
  · rw [if_neg q] at h
    exact h _ hE hC0
def o_coal (S : zS) (x y z : Int) : Int × zS := if (0 ≤ x ∧ x < 3) ∧ (0 ≤ y ∧ y ≤ 999) ∧ 0 ≤ z ∧ z ≤ 999 then (zX S 0 x, sX S (zU (zU (zX S) 0 x y) 1 x z)) else (-1, S)
theorem C_coal (hC : cS μ S) (h : ∀ μ', zEc μ' μ → cS μ' (o_coal S x y z).2 → K (some (.inl (o_coal S x y z).1)) μ') : zCall g d 136 [.inr (.inr ((0, 11), 0)), .inl x, .inl y, .inl z] μ K := by
  have no : ¬ ((0 ≤ x ∧ x < 3) ∧ (0 ≤ y ∧ y ≤ 999) ∧ 0 ≤ z ∧ z ≤ 999) → K (some (.inl (-1))) μ := by
    intro q
    unfold o_coal at h
    rw [if_neg q] at h
    exact h _ (zEc.refl μ) hC
  refine sX11_coal ⟨fun _ => no (by omega), fun _ => ⟨fun _ => no (by omega), fun _ => ⟨fun _ => no (by omega), fun _ => ⟨fun _ => no (by omega), fun _ => ⟨fun _ => no (by omega), fun _ => ⟨fun _ => ⟨by omega, ?_⟩, fun _ => no (by omega)⟩⟩⟩⟩⟩⟩
  unfold o_coal at h
  rw [if_pos (by omega)] at h
  have h5 := hC.2.2.2.2.1
  rw [(h5.1 x (by omega)).1]
  refine h _ (((zEc.refl μ).u (by omega)).u (by omega)) (hC.o (fun j hj _ => by rw [zU_off j (by omega), zU_off j (by omega)]) ⟨fun i hi => ?_, fun i hi => ?_⟩ (fun k hk => by rw [zU_off k (by omega), zU_off k (by omega)]))
  · have := h5.1 i hi
    by_cases q : i = x
    · subst q; simp [zU]
    · simp [zU, q]; exact this
  · have := h5.2 i hi
    simp [zU]; exact this
theorem M_coal (hd : 1 ≤ d) (hC : mS μ S) (h : ∀ μ', zEd μ' μ → mS μ' (o_coal S x y z).2 → K (some (.inl (o_coal S x y z).1)) μ') : zCall g d 240 [.inr (.inr ((0, 12), 119)), .inl x, .inl y, .inl z] μ K := by
  have hC0 : mS (zU μ 119 33 0) S := hC.thr
  have hE : zEd (zU μ 119 33 0) μ := (zEd.refl μ).u (by omega)
  have no : ¬ ((0 ≤ x ∧ x < 3) ∧ (0 ≤ y ∧ y ≤ 999) ∧ 0 ≤ z ∧ z ≤ 999) → K (some (.inl (-1))) (zU μ 119 33 0) := by
    intro q
    unfold o_coal at h
    rw [if_neg q] at h
    exact h _ hE hC0
  refine sX12_coal ⟨hd, m_in (fun q1 => zb1 (m_in (fun q2 => zb1 (m_in (fun q3 => zb1 ⟨by omega, ?_⟩) (fun q3 => zb0 (no (by omega))))) (fun q2 => zb0 (no (by omega))))) (fun q1 => zb0 (no (by omega)))⟩
  unfold o_coal at h
  rw [if_pos (by omega)] at h
  have h5 := hC0.2.2.2.2.1
  generalize zU μ 119 33 0 = M at *
  rw [(h5.1 x (by omega)).1]
  refine h _ ((hE.u (by omega)).u (by omega)) (hC0.o (fun j hj _ => by rw [zU_off j (by omega), zU_off j (by omega)]) (fun i _ => by rw [zU_off 119 (by omega), zU_off 119 (by omega)]) ⟨fun i hi => ?_, fun i hi => ?_⟩ (fun k hk => by rw [zU_off k (by omega), zU_off k (by omega)]))
  · have := h5.1 i hi
    by_cases q : i = x
    · subst q; simp [zU]; exact this.2.2
    · simp [zU, q]; exact this
  · have := h5.2 i hi
    simp [zU]; exact this
def o_wants (S : zS) (x y z : Int) : Int × zS := if (0 ≤ x ∧ x < S.1 13 3) ∧ (0 ≤ y ∧ y ≤ 40) ∧ 0 ≤ z ∧ z < 3 then (1, sX S (zU (zU (zX S) 2 x y) 3 x z)) else (0, S)
theorem C_wants (hd : 1 ≤ d) (hC : cS μ S) (hI : iS n S) (h : ∀ μ', zEc μ' μ → cS μ' (o_wants S x y z).2 → K (some (.inl (o_wants S x y z).1)) μ') : zCall g d 137 [.inr (.inr ((0, 11), 0)), .inl x, .inl y, .inl z] μ K := by
  have w := hI.env
  have e := hC.env
  have no : ¬ ((0 ≤ x ∧ x < μ 5 0) ∧ (0 ≤ y ∧ y ≤ 40) ∧ 0 ≤ z ∧ z < 3) → K (some (.inl 0)) μ := by
    intro q
    unfold o_wants at h
    rw [← e.2.2.2.1, if_neg q] at h
    exact h _ (zEc.refl μ) hC
  refine sX11_wants ⟨hd, c_has (fun q => zb1 ⟨fun _ => no (by omega), fun _ => ⟨fun _ => no (by omega), fun _ => ⟨fun _ => no (by omega), fun _ => ⟨fun _ => ⟨by omega, ?_⟩, fun _ => no (by omega)⟩⟩⟩⟩) (fun q => zb0 (no (by omega)))⟩
  unfold o_wants at h
  rw [← e.2.2.2.1, if_pos (by omega)] at h
  have h5 := hC.2.2.2.2.1
  refine h _ (((zEc.refl μ).u (by omega)).u (by omega)) (hC.o (fun j hj _ => by rw [zU_off j (by omega), zU_off j (by omega)]) ⟨fun i hi => ?_, fun i hi => ?_⟩ (fun k hk => by rw [zU_off k (by omega), zU_off k (by omega)]))
  · have := h5.1 i hi
    simp [zU]; exact this
  · have := h5.2 i hi
    by_cases q : i = x
    · subst q; simp [zU]
    · simp [zU, q]; exact this
theorem M_wants (hd : 2 ≤ d) (hC : mS μ S) (hI : iS n S) (h : ∀ μ', zEd μ' μ → mS μ' (o_wants S x y z).2 → K (some (.inl (o_wants S x y z).1)) μ') : zCall g d 241 [.inr (.inr ((0, 12), 119)), .inl x, .inl y, .inl z] μ K := by
  have w := hI.env
  have hC0 : mS (zU μ 119 33 0) S := hC.thr
  have e := hC0.env
  have hE : zEd (zU μ 119 33 0) μ := (zEd.refl μ).u (by omega)
  refine sX12_wants ⟨by omega, ?_⟩
  generalize zU μ 119 33 0 = M at *
  have no : ¬ ((0 ≤ x ∧ x < M 119 6) ∧ (0 ≤ y ∧ y ≤ 40) ∧ 0 ≤ z ∧ z < 3) → K (some (.inl 0)) M := by
    intro q
    unfold o_wants at h
    rw [← e.2.2.2.1, if_neg q] at h
    exact h _ hE hC0
  refine m_isEngine (by omega) (by omega) (fun q => zb1 (m_in (fun q2 => zb1 (m_in (fun q3 => zb1 ⟨by omega, ?_⟩) (fun q3 => zb0 (no (by omega))))) (fun q2 => zb0 (no (by omega))))) (fun q => zb0 (no (by omega)))
  unfold o_wants at h
  rw [← e.2.2.2.1, if_pos (by omega)] at h
  have h5 := hC0.2.2.2.2.1
  refine h _ ((hE.u (by omega)).u (by omega)) (hC0.o (fun j hj _ => by rw [zU_off j (by omega), zU_off j (by omega)]) (fun i _ => by rw [zU_off 119 (by omega), zU_off 119 (by omega)]) ⟨fun i hi => ?_, fun i hi => ?_⟩ (fun k hk => by rw [zU_off k (by omega), zU_off k (by omega)]))
  · have := h5.1 i hi
    simp [zU]; exact this
  · have := h5.2 i hi
    by_cases q : i = x
    · subst q; simp [zU]
    · simp [zU, q]; exact this
end
