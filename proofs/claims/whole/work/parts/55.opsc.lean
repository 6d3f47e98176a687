-- needs 50 51 52 53 54
/-! operations: dead, end, takes, smoke, move, drag, free -/
theorem zbit_dd (D : Int → Int) (i : Nat) (hi : i < 32) : zbit (z_dd D) i = (decide (i < 12) && decide (D (i : Int) = 1)) := by
  unfold z_dd
  rw [zbit_nat _ _ hi, f_bits_test]
theorem z_dd_lt (D : Int → Int) : f_bits (fun e => decide (D (e : Int) = 1)) 12 < 4096 := f_bits_lt _ 12
theorem zI32_dd (D : Int → Int) : zI32 (z_dd D) := zI32_nat (by have := z_dd_lt D; omega)
theorem dd_tst {D : Int → Int} {e : Int} (he : 0 ≤ e ∧ e < 12) (hD : D e = 0 ∨ D e = 1) : zand (zshr (z_dd D) e) 1 = D e := by
  rw [z_tstb _ (by omega), zbit_dd D e.toNat (by omega), show ((e.toNat : Nat) : Int) = e from by omega, decide_eq_true (show e.toNat < 12 by omega)]
  rcases hD with h | h <;> rw [h] <;> simp
theorem zbit_shl {x : Int} (hx : 0 ≤ x ∧ x < 31) (i : Nat) (hi : i < 32) : zbit (zshl 1 x) i = decide (x.toNat = i) := by
  rw [zshl_1 hx, zbit_nat _ _ hi, Nat.testBit_two_pow]
theorem dd_set {D : Int → Int} {x : Int} (hx : 0 ≤ x ∧ x < 12) : zor (z_dd D) (zshl 1 x) = z_dd (fun e => if e = x then 1 else D e) := by
  refine zb_ext (zI32_or _ _) (zI32_dd _) (fun i hi => ?_)
  rw [zbit_or, zbit_dd _ _ hi, zbit_dd _ _ hi, zbit_shl (by omega) i hi]
  by_cases q : x.toNat = i
  · have : (i : Int) = x := by omega
    simp [q, this, show i < 12 from by omega]
  · have : ¬ (i : Int) = x := by omega
    simp [q, this]
theorem dd_clr {D : Int → Int} {x : Int} (hx : 0 ≤ x ∧ x < 12) : zand (z_dd D) (zxor (zshl 1 x) (-1)) = z_dd (fun e => if e = x then 0 else D e) := by
  refine zb_ext (zI32_and _ _) (zI32_dd _) (fun i hi => ?_)
  rw [zbit_and, zbit_dd _ _ hi, zbit_dd _ _ hi, zbit_not _ _ hi, zbit_shl (by omega) i hi]
  by_cases q : x.toNat = i
  · have : (i : Int) = x := by omega
    simp [q, this]
  · have : ¬ (i : Int) = x := by omega
    simp [q, this]
section
variable {g : zG} {d : Nat} {K : Option zV → zM → Prop} {μ μ' Y : zM} {r : List Int} {S : zS} {n x y z b i v e p : Int}
/-- the dead change -/
theorem cY.dead (h : cY μ Y) (hx : 0 ≤ x ∧ x < 12) (hb : b = 0 ∨ b = 1) (hD : ∀ e, 0 ≤ e ∧ e < 12 → Y 4 e = 0 ∨ Y 4 e = 1) (hv : v = z_dd (fun e => if e = x then b else Y 4 e)) : cY (zU μ 20 2 v) (zU Y 4 x b) := by
  obtain ⟨h1, h2, h3, h4⟩ := h
  have e4 : zU Y 4 x b 4 = fun e => if e = x then b else Y 4 e := zU_row
  refine ⟨?_, zrl_U h2 (by omega), by rw [zU_off 12 (by omega)]; exact h3, by rw [zU_eq, e4]; exact hv⟩
  funext k
  by_cases hk : k = 4
  · subst hk
    funext q
    rw [e4]
    show y_cl 12 (fun e => zand (zshr (zU μ 20 2 v 20 2) e) 1) q = if q = x then b else Y 4 q
    rw [zU_eq]
    unfold y_cl
    by_cases q0 : 0 ≤ q ∧ q < 12
    · rw [if_pos q0, hv]
      show zand (zshr (z_dd (fun e => if e = x then b else Y 4 e)) q) 1 = _
      rw [dd_tst q0]
      have := hD q q0
      split <;> assumption
    · rw [if_neg q0, if_neg (by omega), ← h1]
      simp only [vC, y_cl]
      rw [if_neg q0]
  · rw [zU_off k hk, ← h1]
    exact vC_k h2 (fun j _ _ => zU_off j (by omega)) ⟨fun _ => zU_off _ (by omega), fun _ => zU_off _ (by omega), fun _ => zU_off _ (by omega), fun _ => zU_off _ (by omega), fun q => absurd q hk, fun _ => ⟨zU_ne (by omega), zU_ne (by omega)⟩⟩
def o_dead (S : zS) (x b : Int) : Int × zS := if 0 ≤ x ∧ x < S.1 13 3 then (1, sY S (zU S.1 4 x b)) else (0, S)
theorem C_dead (hd : 1 ≤ d) (hb : b = 0 ∨ b = 1) (hC : cS μ S) (hI : iS n S) (h : ∀ μ', zEc μ' μ → cS μ' (o_dead S x b).2 → K (some (.inl (o_dead S x b).1)) μ') : zCall g d 120 [.inr (.inr ((0, 11), 0)), .inl x, .inl b] μ K := by
  have w := hI.env
  have e := hC.env
  unfold o_dead at h
  rw [← e.2.2.2.1] at h
  have hD : ∀ e, 0 ≤ e ∧ e < 12 → S.1 4 e = 0 ∨ S.1 4 e = 1 := fun e he => (hI.W.2.2.2 e he).1.2.2.2.2.2.2.2
  refine sX11_dead ⟨hd, c_has (fun q => zb1 ⟨fun q2 => ?_, fun q2 => ?_⟩) (fun q => zb0 ?_)⟩
  · rw [if_pos q] at h
    refine h _ ((zEc.refl μ).u (by omega)) (hC.yard (hC.1.dead (by omega) hb hD ?_) (fun j hj _ => zU_off j (by omega)))
    rw [hC.1.2.2.2, dd_clr (by omega), q2]
  · rw [if_pos q] at h
    refine h _ ((zEc.refl μ).u (by omega)) (hC.yard (hC.1.dead (by omega) hb hD ?_) (fun j hj _ => zU_off j (by omega)))
    rw [hC.1.2.2.2, dd_set (by omega), show b = 1 from by omega]
  · rw [if_neg q] at h
    exact h _ (zEc.refl μ) hC
theorem M_dead (hd : 2 ≤ d) (hb : b = 0 ∨ b = 1) (hC : mS μ S) (hI : iS n S) (h : ∀ μ', zEd μ' μ → mS μ' (o_dead S x b).2 → K (some (.inl (o_dead S x b).1)) μ') : zCall g d 197 [.inr (.inr ((0, 12), 119)), .inl x, .inl b] μ K := by
  have w := hI.env
  have hC0 : mS (zU μ 119 33 0) S := hC.thr
  have e := hC0.env
  have hE : zEd (zU μ 119 33 0) μ := (zEd.refl μ).u (by omega)
  unfold o_dead at h
  rw [← e.2.2.2.1] at h
  refine sX12_dead ⟨by omega, m_isEngine (by omega) (by omega) (fun q => zb1 ⟨by omega, hb, ?_⟩) (fun q => zb0 ?_)⟩
  · rw [if_pos q] at h
    exact h _ (hE.u (by omega)) (hC0.yard (hC0.1.u (mE4 (by omega)) (by omega) (by omega)) (fun j hj _ => zU_off j (by omega)) (fun i _ _ => zU_ne (by omega)))
  · rw [if_neg q] at h
    exact h _ hE hC0
/-- a slot of the class's rule that is none of its code's -/
theorem cY.u12 (h : cY μ Y) (hi : ¬ (i = 2 ∨ i = 3 ∨ i = 4)) : cY (zU μ 12 i v) Y := by
  obtain ⟨h1, h2, h3, h4⟩ := h
  have e2 : zU μ 12 i v 12 2 = μ 12 2 := zU_ne (by omega)
  refine ⟨by rw [vEr h2 (by omega)]; exact h1, ?_, by rw [e2, zU_ne (by omega)]; exact h3, by rw [zU_off 20 (by omega)]; exact h4⟩
  unfold zrl at *
  rw [e2]; exact h2
theorem cS.text {t : List Int} (h : cS μ S) (hY : cY μ' S.1) (e : ∀ j, ¬ (j = 12 ∨ j = 13) → ¬ z_scr j → μ' j = μ j) (hT : cT μ' t) : cS μ' (sT S t) := by
  unfold z_scr at e
  obtain ⟨h1, h2, h3, h4, h5, h6, h7⟩ := h
  exact ⟨hY, hT, h3.same (by rw [e 18 (by omega) (by omega)]) (e 19 (by omega) (by omega)), h4.same (by rw [e 62 (by omega) (by omega)]) (by rw [e 62 (by omega) (by omega)]) (e 63 (by omega) (by omega)) (e 64 (by omega) (by omega)), h5.same (e 71 (by omega) (by omega)) (e 72 (by omega) (by omega)) (e 10 (by omega) (by omega)) (e 11 (by omega) (by omega)), h6.same (by rw [e 78 (by omega) (by omega)]) (fun j _ _ => e j (by omega) (by omega)), h7.same (by rw [e 0 (by omega) (by omega)]) (fun j _ _ => e j (by omega) (by omega))⟩
theorem mS.text {t : List Int} (h : mS μ S) (e : ∀ j, ¬ (j = 119 ∨ j = 139) → ¬ z_scm j → μ' j = μ j) (e2 : ∀ i, ¬ i = 30 → ¬ z_scs i → μ' 119 i = μ 119 i) (hT : mT μ' t) : mS μ' (sT S t) := by
  unfold z_scm at e
  unfold z_scs at e2
  obtain ⟨h1, h2, h3, h4, h5, h6, h7⟩ := h
  exact ⟨h1.same (fun j _ _ => e j (by omega) (by omega)) (fun i hi => e2 i (by omega) (by omega)) (e 138 (by omega) (by omega)), hT, h3.same (e2 32 (by omega) (by omega)) (e 140 (by omega) (by omega)), h4.same (e2 23 (by omega) (by omega)) (e2 25 (by omega) (by omega)) (e 136 (by omega) (by omega)) (e 137 (by omega) (by omega)), h5.same (fun j _ _ => e j (by omega) (by omega)), h6.same (e2 18 (by omega) (by omega)) (fun j _ _ => e j (by omega) (by omega)), h7.same (e2 74 (by omega) (by omega)) (fun j _ _ => e j (by omega) (by omega))⟩
def o_end (S : zS) (x : Int) : Int × zS := if 0 ≤ x ∧ x ≤ (S.2.1.length : Int) then (1, sT S (S.2.1.take x.toNat)) else (0, S)
theorem zli_take {f : Int → Int} {t : List Int} (h : zli f t) (m : Nat) : zli f (t.take m) := by
  intro k v hk
  rw [List.getElem?_take] at hk
  split at hk
  · exact h k v hk
  · cases hk
theorem C_end (hd : 1 ≤ d) (hC : cS μ S) (h : ∀ μ', zEc μ' μ → cS μ' (o_end S x).2 → K (some (.inl (o_end S x).1)) μ') : zCall g d 115 [.inr (.inr ((0, 11), 0)), .inl x] μ K := by
  have hT := hC.2.1
  unfold o_end at h
  rw [← hT.1] at h
  refine sX11_end ⟨hd, sX6_cut ⟨fun q => zb0 ?_, fun q => ⟨fun q2 => zb1 ?_, fun q2 => zb0 ?_⟩⟩⟩
  · rw [if_neg (by omega)] at h
    exact h _ (zEc.refl μ) hC
  · rw [if_pos (by omega)] at h
    refine h _ ((zEc.refl μ).u (by omega)) (hC.text (hC.1.u12 (by omega)) (fun j hj _ => zU_off j (by omega)) ⟨?_, ?_⟩)
    · rw [zU_eq, List.length_take]
      have := hT.1
      omega
    · rw [zU_off 13 (by omega)]
      exact zli_take hT.2 _
  · rw [if_neg (by omega)] at h
    exact h _ (zEc.refl μ) hC
theorem M_end (hd : 1 ≤ d) (hC : mS μ S) (h : ∀ μ', zEd μ' μ → mS μ' (o_end S x).2 → K (some (.inl (o_end S x).1)) μ') : zCall g d 179 [.inr (.inr ((0, 12), 119)), .inl x] μ K := by
  have hT := hC.2.1
  have hC0 : mS (zU μ 119 33 0) S := hC.thr
  have hE : zEd (zU μ 119 33 0) μ := (zEd.refl μ).u (by omega)
  unfold o_end at h
  rw [← hT.1] at h
  refine sX12_end ⟨hd, m_in (fun q => zb1 ?_) (fun q => zb0 ?_)⟩
  · rw [if_pos q] at h
    refine h _ (hE.u (by omega)) (hC0.text (fun j hj _ => zU_off j (by omega)) (fun i hi _ => zU_ne (by omega)) ⟨?_, fun k v hk => ?_⟩)
    · rw [zU_eq, List.length_take]
      have := hT.1
      omega
    · rw [zU_off 139 (by omega), zU_off 139 (by omega)]
      rw [List.getElem?_take] at hk
      split at hk
      · exact hT.2 k v hk
      · cases hk
  · rw [if_neg q] at h
    exact h _ hE hC0
def o_takes (S : zS) (x e : Int) : Int × zS := (if (0 ≤ x ∧ x < S.1 13 0) ∧ 0 ≤ e ∧ e < S.1 13 3 then (if ¬ S.1 2 e = x ∧ f_takes S.1 x e = true then 1 else 0) else -1, S)
theorem C_takes (hd : 3 ≤ d) (hC : cS μ S) (hI : iS n S) (h : ∀ μ', zEc μ' μ → cS μ' (o_takes S x e).2 → K (some (.inl (o_takes S x e).1)) μ') : zCall g d 122 [.inr (.inr ((0, 11), 0)), .inl x, .inl e] μ K := by
  have w := hI.env
  have ev := hC.env
  unfold o_takes at h
  rw [← ev.1, ← ev.2.2.2.1] at h
  have h16 : ∀ M, zEq16 M μ → zEc M μ ∧ cS M S := fun M hM => ⟨fun j hj => hM j (by omega), hC.scr (fun j hj => hM j (by unfold z_scr at hj; omega))⟩
  refine sX11_takes ⟨by omega, c_hasStall (fun q => zb1 (c_has (fun q2 => zb1 ⟨by omega, fun q3 => ?_, fun q3 => ?_⟩) (fun q2 => zb0 ?_))) (fun q => zb0 ?_)⟩
  · rw [(hC.en (by omega)).1] at q3
    have := h μ (zEc.refl μ) hC
    rw [if_pos ⟨q, q2⟩, if_neg (fun hh => hh.1 q3)] at this
    exact this
  · rw [(hC.en (by omega)).1] at q3
    refine c_takesIt (by omega) (by omega) hC.1.2.1 (hC.W hI) (by rw [hC.1.1]; exact hI.R) (by omega) (by omega) (fun M hM q4 => zb1 ?_) (fun M hM q4 => zb0 ?_)
    · rw [hC.1.1] at q4
      have := h M (h16 M hM).1 (h16 M hM).2
      rw [if_pos ⟨q, q2⟩, if_pos ⟨q3, q4⟩] at this
      exact this
    · rw [hC.1.1] at q4
      have := h M (h16 M hM).1 (h16 M hM).2
      rw [if_pos ⟨q, q2⟩, if_neg (fun hh => by rw [q4] at hh; cases hh.2)] at this
      exact this
  · have := h μ (zEc.refl μ) hC
    rw [if_neg (fun hh => q2 hh.2)] at this
    exact this
  · have := h μ (zEc.refl μ) hC
    rw [if_neg (fun hh => q hh.1)] at this
    exact this
theorem M_takes (hd : 320 ≤ d) (hC : mS μ S) (hI : iS n S) (h : ∀ μ', zEd μ' μ → mS μ' (o_takes S x e).2 → K (some (.inl (o_takes S x e).1)) μ') : zCall g d 204 [.inr (.inr ((0, 12), 119)), .inl x, .inl e] μ K := by
  have w := hI.env
  have hC0 : mS (zU μ 119 33 0) S := hC.thr
  have ev := hC0.env
  have hE : zEd (zU μ 119 33 0) μ := (zEd.refl μ).u (by omega)
  unfold o_takes at h
  rw [← ev.1, ← ev.2.2.2.1] at h
  refine sX12_takes ⟨by omega, ?_⟩
  generalize zU μ 119 33 0 = N at *
  have hm : ∀ M, zEm M N → zEd M μ ∧ mS M S := fun M hM => ⟨(zEd.m hM).trans hE, hC0.m hM⟩
  refine m_isStall (by omega) (by omega) (fun q => zb1 (m_isEngine (by omega) (by omega) (fun q2 => zb1 (m_isTaking (co := S.1 14) (cn := S.1 15 0) (by omega) (hC0.W hI) hC0.1.2.1 (by omega) (by omega) (fun M hM q3 q4 => zb1 ?_) (fun M hM q3 => zb0 ?_))) (fun q2 => zb0 ?_))) (fun q => zb0 ?_)
  · rw [hC0.1.1] at q4
    rw [(hC0.en (by omega)).1] at q3
    have := h M (hm M hM).1 (hm M hM).2
    rw [if_pos ⟨q, q2⟩, if_pos ⟨q3, q4⟩] at this
    exact this
  · rw [hC0.1.1, (hC0.en (by omega)).1] at q3
    have := h M (hm M hM).1 (hm M hM).2
    rw [if_pos ⟨q, q2⟩, if_neg (fun hh => by rcases q3 with q3 | q3; exact hh.1 q3; rw [q3] at hh; cases hh.2)] at this
    exact this
  · have := h N hE hC0
    rw [if_neg (fun hh => q2 hh.2)] at this
    exact this
  · have := h N hE hC0
    rw [if_neg (fun hh => q hh.1)] at this
    exact this
end
