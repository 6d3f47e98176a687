-- needs 50 51 52 53 54 55 56 57 58 59 60 61 62
/-! operations: stall, engine, ring -/
theorem zU_same {μ : zM} {j : Nat} {i v : Int} (h : μ j i = v) : zU μ j i v = μ := by
  funext a b
  unfold zU
  split
  · rename_i q
    rw [q.1, q.2, h]
  · rfl
section
variable {g : zG} {d : Nat} {K : Option zV → zM → Prop} {μ μ' Y X : zM} {s m i : Nat} {r : List Int} {S : zS} {co : Int → Int} {cn n x y z b v e p t : Int}
/-- the next version -/
def sV (S : zS) : zS := sX S (zU (zX S) 8 1 (zX S 8 1 + 1))
theorem iS.ver (h : iS n S) : 0 ≤ zX S 8 1 ∧ zX S 8 1 ≤ 512 := by
  have h1 := h.1
  have h2 : iK n S.1 (zX S) := h.2.2.2.2.2.2.2
  have := h2.1
  omega
theorem iS.nver (h : iS n S) : ∀ i : Nat, i < 3 → ¬ zX S 9 (i : Int) = zX S 8 1 + 1 := fun i hi => by
  have h2 : iK n S.1 (zX S) := h.2.2.2.2.2.2.2
  have := (h2.2 i hi).1
  omega
theorem f_len_b (hW : y_W Y) (hx : 0 ≤ x ∧ x < 23) : 0 ≤ f_len Y x ∧ f_len Y x ≤ 60 := by
  have w := hW.1
  have w2 := (hW.2.2.1 x hx).2.1
  have s1 : ∀ e, 0 ≤ e ∧ e < 12 → 0 ≤ Y 9 e ∧ Y 9 e ≤ 30 := fun e he => by have := (hW.2.2.2 e he).1; omega
  have a0 := s1 (Y 0 x)
  have a1 := s1 (Y 1 x)
  unfold f_len
  split <;> split <;> omega
def o_stall (S : zS) (x y z : Int) : Int × zS := if (0 ≤ x ∧ x < S.1 13 0) ∧ (10 ≤ y ∧ y ≤ 60) ∧ (0 ≤ z ∧ z ≤ 3) ∧ f_len S.1 x ≤ y then (1, sV (sY S (zU (zU S.1 6 x y) 7 x z))) else (0, S)
theorem C_stall (hd : 2 ≤ d) (hC : cS μ S) (hI : iS n S) (h : ∀ μ', zEc μ' μ → cS μ' (o_stall S x y z).2 → K (some (.inl (o_stall S x y z).1)) μ') : zCall g d 109 [.inr (.inr ((0, 11), 0)), .inl x, .inl y, .inl z] μ K := by
  have w := hI.env
  have e := hC.env
  have hv := hI.ver
  have h7 : cK μ (zX S) := hC.2.2.2.2.2.2
  have no : ¬ ((0 ≤ x ∧ x < S.1 13 0) ∧ (10 ≤ y ∧ y ≤ 60) ∧ (0 ≤ z ∧ z ≤ 3) ∧ f_len S.1 x ≤ y) → K (some (.inl 0)) μ := by
    intro q
    unfold o_stall at h
    rw [if_neg q] at h
    exact h μ (zEc.refl μ) hC
  refine sX11_stall ⟨by omega, c_hasStall (fun q => zb1 ⟨fun _ => no (by omega), fun _ => ⟨fun _ => ⟨fun _ => no (by omega), fun _ => ⟨fun _ => no (by omega), fun _ => c_lengthIn (hC.W hI) (by omega) (zi ⟨fun q2 => ⟨by omega, ?_⟩, fun q2 => no ?_⟩)⟩⟩, fun _ => no (by omega)⟩⟩) (fun q => zb0 (no (by omega)))⟩
  · rw [hC.1.1] at q2
    unfold o_stall at h
    rw [if_pos (by omega)] at h
    rw [h7.1, zwi (x := zX S 8 1 + 1) (by omega) (by omega)]
    have h1 := (hC.1.u (vE6 hC.1.2.1 (v := y) (i := x) (by omega)) (by omega) (by omega) (by omega))
    exact h _ ((((zEc.refl μ).u (by omega)).u (by omega)).u (by omega)) (cS.ver (hC.yard (h1.u (vE7 h1.2.1 (by omega)) (by omega) (by omega) (by omega)) (fun j hj _ => by rw [zU_off j (by omega), zU_off j (by omega)])))
  · rw [hC.1.1] at q2
    omega
theorem M_stall (hd : 2 ≤ d) (hC : mS μ S) (hI : iS n S) (h : ∀ μ', zEd μ' μ → mS μ' (o_stall S x y z).2 → K (some (.inl (o_stall S x y z).1)) μ') : zCall g d 172 [.inr (.inr ((0, 12), 119)), .inl x, .inl y, .inl z] μ K := by
  have w := hI.env
  have hC0 : mS (zU μ 119 33 0) S := hC.thr
  have hE : zEd (zU μ 119 33 0) μ := (zEd.refl μ).u (by omega)
  refine sX12_stall ⟨by omega, ?_⟩
  generalize zU μ 119 33 0 = N at *
  have e := hC0.env
  have hv := hI.ver
  have h7 : mK N (S.1 13 3) (zX S) := hC0.2.2.2.2.2.2
  have no : ¬ ((0 ≤ x ∧ x < S.1 13 0) ∧ (10 ≤ y ∧ y ≤ 60) ∧ (0 ≤ z ∧ z ≤ 3) ∧ f_len S.1 x ≤ y) → K (some (.inl 0)) N := by
    intro q
    unfold o_stall at h
    rw [if_neg q] at h
    exact h N hE hC0
  refine m_isStall (by omega) (by omega) (fun q => zb1 (m_in (fun q2 => zb1 (m_in (fun q3 => zb1 (m_lengthIn (co := S.1 14) (cn := S.1 15 0) (hC0.W hI) (by omega) (zi ⟨fun q4 => ⟨by omega, ?_⟩, fun q4 => no ?_⟩))) (fun q3 => zb0 (no (by omega))))) (fun q2 => zb0 (no (by omega))))) (fun q => zb0 (no (by omega)))
  · rw [hC0.1.1] at q4
    unfold o_stall at h
    rw [if_pos (by omega)] at h
    rw [h7.1, zwi (x := zX S 8 1 + 1) (by omega) (by omega)]
    have h1 := hC0.1.u (mE6 (v := y) (i := x) (by omega)) (by omega) (by omega)
    exact h _ (((hE.u (by omega)).u (by omega)).u (by omega)) (mS.ver (hC0.yard (h1.u (mE7 (by omega)) (by omega) (by omega)) (fun j hj _ => by rw [zU_off j (by omega), zU_off j (by omega)]) (fun i hi _ => by rw [zU_off 119 (by omega), zU_off 119 (by omega)])) hI.nver)
  · rw [hC0.1.1] at q4
    omega
def f_eng (Y : zM) (x y z b : Int) : zM := zU (zU (zU (zU (zU Y 9 (Y 13 3) x) 10 (Y 13 3) y) 11 (Y 13 3) z) 12 (Y 13 3) b) 13 3 (Y 13 3 + 1)
def o_engine (S : zS) (x y z b : Int) : Int × zS := if (5 ≤ x ∧ x ≤ 30) ∧ (0 ≤ y ∧ y ≤ 5) ∧ (0 ≤ z ∧ z ≤ 600) ∧ S.1 13 3 < 12 then (S.1 13 3, sV (sY S (f_eng S.1 x y z b))) else (-1, S)
theorem C_engine (hd : 2 ≤ d) (hb : b = 0 ∨ b = 1) (hC : cS μ S) (hI : iS n S) (h : ∀ μ', zEc μ' μ → cS μ' (o_engine S x y z b).2 → K (some (.inl (o_engine S x y z b).1)) μ') : zCall g d 117 [.inr (.inr ((0, 11), 0)), .inl x, .inl y, .inl z, .inl b] μ K := by
  have w := hI.env
  have e := hC.env
  have hv := hI.ver
  have h7 : cK μ (zX S) := hC.2.2.2.2.2.2
  have no : ¬ ((5 ≤ x ∧ x ≤ 30) ∧ (0 ≤ y ∧ y ≤ 5) ∧ (0 ≤ z ∧ z ≤ 600) ∧ S.1 13 3 < 12) → K (some (.inl (-1))) μ := by
    intro q
    unfold o_engine at h
    rw [if_neg q] at h
    exact h μ (zEc.refl μ) hC
  refine sX11_engine ⟨fun _ => no (by omega), fun _ => ⟨fun _ => no (by omega), fun _ => ⟨fun _ => no (by omega), fun _ => ⟨fun _ => no (by omega), fun _ => ⟨fun _ => no (by omega), fun _ => ⟨fun _ => ⟨fun _ => ⟨by omega, sX3_enlist ⟨?_, hb, zi ?_⟩⟩, fun _ => no (by omega)⟩, fun _ => no (by omega)⟩⟩⟩⟩⟩⟩
  · rw [zU_off 5 (by omega)]; omega
  · unfold o_engine at h
    rw [if_pos (by omega)] at h
    rw [zU_off 5 (by omega), h7.1, zwi (x := zX S 8 1 + 1) (by omega) (by omega), zwi (x := μ 5 0 + 1) (by omega) (by omega), e.2.2.2.1]
    have hC1 : cS (zU μ 0 13 (zX S 8 1 + 1)) (sV S) := cS.ver hC
    have hE1 : zEc (zU μ 0 13 (zX S 8 1 + 1)) μ := (zEc.refl μ).u (by omega)
    generalize zU μ 0 13 (zX S 8 1 + 1) = M at *
    have y0 : cY M S.1 := hC1.1
    have y1 := y0.u (vE9 y0.2.1 (i := S.1 13 3) (v := x) (by omega)) (by omega) (by omega) (by omega)
    have y2 := y1.u (vE10 y1.2.1 (i := S.1 13 3) (v := y) (by omega)) (by omega) (by omega) (by omega)
    have y3 := y2.u (vE11 y2.2.1 (i := S.1 13 3) (v := z) (by omega)) (by omega) (by omega) (by omega)
    have y4 := y3.u (vE12 y3.2.1 (i := S.1 13 3) (v := b) (by omega)) (by omega) (by omega) (by omega)
    have y5 := y4.u (vE5 y4.2.1 (v := S.1 13 3 + 1)) (by omega) (by omega) (by omega)
    exact h _ (((((hE1.u (by omega)).u (by omega)).u (by omega)).u (by omega)).u (by omega)) (hC1.yard y5 (fun j hj _ => by rw [zU_off j (by omega), zU_off j (by omega), zU_off j (by omega), zU_off j (by omega), zU_off j (by omega)]))
theorem M_engine (hd : 2 ≤ d) (hb : b = 0 ∨ b = 1) (hC : mS μ S) (hI : iS n S) (h : ∀ μ', zEd μ' μ → mS μ' (o_engine S x y z b).2 → K (some (.inl (o_engine S x y z b).1)) μ') : zCall g d 192 [.inr (.inr ((0, 12), 119)), .inl x, .inl y, .inl z, .inl b] μ K := by
  have w := hI.env
  have hC0 : mS (zU μ 119 33 0) S := hC.thr
  have hE : zEd (zU μ 119 33 0) μ := (zEd.refl μ).u (by omega)
  refine sX12_engine ⟨by omega, ?_⟩
  generalize zU μ 119 33 0 = N at *
  have e := hC0.env
  have hv := hI.ver
  have h7 : mK N (S.1 13 3) (zX S) := hC0.2.2.2.2.2.2
  have no : ¬ ((5 ≤ x ∧ x ≤ 30) ∧ (0 ≤ y ∧ y ≤ 5) ∧ (0 ≤ z ∧ z ≤ 600) ∧ S.1 13 3 < 12) → K (some (.inl (-1))) N := by
    intro q
    unfold o_engine at h
    rw [if_neg q] at h
    exact h N hE hC0
  refine m_in (fun q => zb1 (m_in (fun q2 => zb1 (m_in (fun q3 => zb1 ⟨fun q4 => ⟨by omega, hb, ?_⟩, fun q4 => no (by omega)⟩) (fun q3 => zb0 (no (by omega))))) (fun q2 => zb0 (no (by omega))))) (fun q => zb0 (no (by omega)))
  unfold o_engine at h
  rw [if_pos (by omega)] at h
  have ee := (hI.W.2.2.2 (S.1 13 3) (by omega)).2.2.2 (by omega)
  rw [h7.1, zwi (x := zX S 8 1 + 1) (by omega) (by omega), zwi (x := N 119 6 + 1) (by omega) (by omega), e.2.2.2.1]
  have y0 : mY N S.1 := hC0.1
  have y1 := y0.u (mE9 (i := S.1 13 3) (v := x) (by omega)) (by omega) (by omega)
  have y2 := y1.u (mE10 (i := S.1 13 3) (v := y) (by omega)) (by omega) (by omega)
  have y3 := y2.u (mE11 (i := S.1 13 3) (v := z) (by omega)) (by omega) (by omega)
  have y4 := y3.u (mE12 (i := S.1 13 3) (v := b) (by omega)) (by omega) (by omega)
  have y5 := y4.u (mE4 (i := S.1 13 3) (v := 0) (by omega)) (by omega) (by omega)
  rw [zU_same (j := 4) (by rw [zU_off 4 (by omega), zU_off 4 (by omega), zU_off 4 (by omega), zU_off 4 (by omega)]; exact ee.2.2)] at y5
  have n6 := e.2.2.2.1
  generalize hP : zU (zU (zU (zU (zU N 125 (S.1 13 3) x) 126 (S.1 13 3) y) 127 (S.1 13 3) z) 128 (S.1 13 3) b) 129 (S.1 13 3) 0 = P at *
  have p119 : ∀ i, P 119 i = N 119 i := fun i => by rw [← hP, zU_off 119 (by omega), zU_off 119 (by omega), zU_off 119 (by omega), zU_off 119 (by omega), zU_off 119 (by omega)]
  have pj : ∀ j, ¬ (125 ≤ j ∧ j ≤ 129) → P j = N j := fun j hj => by rw [← hP, zU_off j (by omega), zU_off j (by omega), zU_off j (by omega), zU_off j (by omega), zU_off j (by omega)]
  have vQ : ∀ co cn, vM (zU (zU P 130 (S.1 13 3) (-1)) 131 (S.1 13 3) (-1)) co cn = vM P co cn := by
    intro co cn
    funext k y
    have cl : ∀ c : Nat, (c = 130 ∨ c = 131) → y_cl (P 119 6) (zU (zU P 130 (S.1 13 3) (-1)) 131 (S.1 13 3) (-1) c) y = y_cl (P 119 6) (P c) y := fun c hc => by
      unfold y_cl
      by_cases q5 : 0 ≤ y ∧ y < P 119 6
      · rw [p119] at q5
        rw [if_pos (by rw [p119]; exact q5), if_pos (by rw [p119]; exact q5), zU_ne (by omega), zU_ne (by omega)]
      · rw [if_neg q5, if_neg q5]
    match k with
    | 0 => simp only [vM]; rw [zU_off 123 (by omega), zU_off 123 (by omega)]
    | 1 => simp only [vM]; rw [zU_off 124 (by omega), zU_off 124 (by omega)]
    | 2 => simp only [vM]; rw [zU_off 119 (by omega), zU_off 119 (by omega)]; exact cl 130 (Or.inl rfl)
    | 3 => simp only [vM]; rw [zU_off 119 (by omega), zU_off 119 (by omega)]; exact cl 131 (Or.inr rfl)
    | 4 => simp only [vM]; rw [zU_off 129 (by omega), zU_off 129 (by omega)]
    | 5 => simp only [vM]; rw [zU_off 119 (by omega), zU_off 119 (by omega)]
    | 6 => simp only [vM]; rw [zU_off 120 (by omega), zU_off 120 (by omega)]
    | 7 => simp only [vM]; rw [zU_off 121 (by omega), zU_off 121 (by omega)]
    | 8 => simp only [vM]; rw [zU_off 122 (by omega), zU_off 122 (by omega)]
    | 9 => simp only [vM]; rw [zU_off 125 (by omega), zU_off 125 (by omega)]
    | 10 => simp only [vM]; rw [zU_off 126 (by omega), zU_off 126 (by omega)]
    | 11 => simp only [vM]; rw [zU_off 127 (by omega), zU_off 127 (by omega)]
    | 12 => simp only [vM]; rw [zU_off 128 (by omega), zU_off 128 (by omega)]
    | 13 => simp only [vM]; rw [zU_off 119 (by omega), zU_off 119 (by omega)]
    | 14 => simp only [vM]
    | 15 => simp only [vM]
    | k + 16 => simp only [vM]
  have y7 : mY (zU (zU P 130 (S.1 13 3) (-1)) 131 (S.1 13 3) (-1)) (zU (zU (zU (zU S.1 9 (S.1 13 3) x) 10 (S.1 13 3) y) 11 (S.1 13 3) z) 12 (S.1 13 3) b) := by
    obtain ⟨a1, a2, a3⟩ := y5
    refine ⟨by rw [vQ]; exact a1, ?_, ?_⟩
    · rw [zU_off 138 (by omega), zU_off 138 (by omega), zU_off 119 (by omega), zU_off 119 (by omega)]
      exact a2
    · rw [zU_off 119 (by omega), zU_off 119 (by omega)]
      exact a3
  have q6 : zU (zU P 130 (S.1 13 3) (-1)) 131 (S.1 13 3) (-1) 119 6 = S.1 13 3 := by rw [zU_off 119 (by omega), zU_off 119 (by omega), p119]; exact n6
  have y8 := y7.u (mE13_3 (v := S.1 13 3 + 1) (by rw [q6, zU_off 130 (by omega), zU_eq]) (by rw [q6, zU_eq]) (by rw [q6])) (by omega) (by omega)
  exact h _ (fun j hj => by rw [zU_off j (by omega), zU_off j (by omega), zU_off j (by omega), zU_off j (by omega), pj j (by omega)]; exact hE j hj) (hC0.yver y8 (fun j hj _ => by rw [zU_off j (by omega), zU_off j (by omega), zU_off j (by omega), pj j (by omega)]) (fun i hi _ => by rw [zU_ne (by omega), zU_off 119 (by omega), zU_off 119 (by omega), p119]) hI.nver)
/-- the ring is renewed -/
theorem c_renew (h : ∀ μ', (∀ j, ¬ (1 ≤ j ∧ j ≤ 4) → μ' j = μ j) → (∀ i, μ' 1 i = if i = 0 then x else μ 1 i) → (∀ i, 0 ≤ i ∧ i < 23 → μ' 2 i = 30 ∧ μ' 3 i = 3 ∧ μ' 4 i = 0) → K none μ') : zCall g d 34 [.inr (.inr ((0, 4), 1)), .inl x] μ K := by
  refine sX4_renew ?_
  have lp : ∀ (k j : Nat) (M : zM), j + k = 23 → (∀ j, ¬ (2 ≤ j ∧ j ≤ 4) → M j = zU μ 1 0 x j) → (∀ i, 0 ≤ i ∧ i < (j : Int) → M 2 i = 30 ∧ M 3 i = 3 ∧ M 4 i = 0) → zT g d mX4_renew K 7 [some (.inr (.inr ((0, 4), 1))), none, some (.inl (j : Int))] [] M := by
    intro k
    induction k with
    | zero =>
      intro j M hj hM hk
      obtain rfl : j = 23 := by omega
      refine sX4_renew_7 ⟨fun _ => h M (fun j hj => by rw [hM j (by omega), zU_off j (by omega)]) (fun i => ?_) hk, fun q => by omega⟩
      rw [hM 1 (by omega), zU_row]
    | succ k ih =>
      intro j M hj hM hk
      refine sX4_renew_7 ⟨fun q => by omega, fun q => ⟨by omega, ?_⟩⟩
      rw [zw_suc (by omega)]
      refine ih (j + 1) _ (by omega) (fun q hq => by rw [zU_off q (by omega), zU_off q (by omega), zU_off q (by omega)]; exact hM q hq) (fun i hi => ?_)
      by_cases q5 : i = (j : Int)
      · subst q5; simp [zU]
      · have := hk i (by omega)
        simp [zU, q5]
        exact this
  exact lp 23 0 _ (by omega) (fun _ _ => rfl) (fun i hi => by omega)
def f_ring (Y : zM) (x : Int) : zM := fun k i => if k = 6 then y_cl 23 (fun _ => 30) i else if k = 7 then y_cl 23 (fun _ => 3) i else if k = 8 then y_cl 23 (fun _ => 0) i else if k = 13 ∧ i = 0 then x else if k = 5 ∧ i = 0 then x else Y k i
def o_ring (S : zS) (x : Int) : Int × zS := if (4 ≤ x ∧ x ≤ 23) ∧ f_ins S.1 = 0 then (S.1 13 0, sV (sY S (f_ring S.1 x))) else (-1, S)
theorem C_ring (hd : 2 ≤ d) (hC : cS μ S) (hI : iS n S) (h : ∀ μ', zEc μ' μ → cS μ' (o_ring S x).2 → K (some (.inl (o_ring S x).1)) μ') : zCall g d 108 [.inr (.inr ((0, 11), 0)), .inl x] μ K := by
  have w := hI.env
  have e := hC.env
  have hv := hI.ver
  have h7 : cK μ (zX S) := hC.2.2.2.2.2.2
  have no : ¬ ((4 ≤ x ∧ x ≤ 23) ∧ f_ins S.1 = 0) → K (some (.inl (-1))) μ := by
    intro q
    unfold o_ring at h
    rw [if_neg q] at h
    exact h μ (zEc.refl μ) hC
  refine sX11_ring ⟨fun _ => no (by omega), fun _ => ⟨fun _ => no (by omega), fun _ => ⟨by omega, c_inStalls (zi ⟨fun q => ?_, fun q => no (fun hh => ?_)⟩)⟩⟩⟩
  · rw [hC.1.1] at q
    unfold o_ring at h
    rw [if_pos (by omega)] at h
    refine c_renew (fun M hM k1 k2 => zn ?_)
    rw [hM 0 (by omega), h7.1, zwi (x := zX S 8 1 + 1) (by omega) (by omega), e.1]
    have m12 : M 12 = μ 12 := hM 12 (by omega)
    have hz := hC.1.2.1
    refine h _ (fun j hj => by rw [zU_off j (by omega), zU_off j (by omega), hM j (by omega)]) (cS.ver (hC.yard ⟨?_, ?_, ?_, ?_⟩ (fun j hj _ => by rw [zU_off j (by omega), hM j (by omega)])))
    · rw [vU5 (s := 20) (zrl_same hz m12) (by omega) (Or.inl rfl)]
      funext k y
      unfold f_ring
      have hvC := hC.1.1
      have key : ∀ k', (∀ y, vC M 20 k' y = vC μ 20 k' y) → vC M 20 k' y = S.1 k' y := fun k' hk => by rw [hk y, hvC]
      match k with
      | 0 => simp [zU]; apply key; intro y; simp only [vC]; rw [hM 21 (by omega)]
      | 1 => simp [zU]; apply key; intro y; simp only [vC]; rw [hM 22 (by omega)]
      | 2 => simp [zU]; apply key; intro y; simp only [vC]; rw [hM 23 (by omega)]
      | 3 => simp [zU]; apply key; intro y; simp only [vC]; rw [hM 24 (by omega)]
      | 4 => simp [zU]; apply key; intro y; simp only [vC]; rw [hM 20 (by omega)]
      | 5 => simp [zU]; rw [key 5 (fun y => by simp only [vC]; rw [hM 20 (by omega)])]
      | 6 =>
        simp [zU]
        simp only [vC, y_cl]
        split
        · exact (k2 y (by omega)).1
        · rfl
      | 7 =>
        simp [zU]
        simp only [vC, y_cl]
        split
        · exact (k2 y (by omega)).2.1
        · rfl
      | 8 =>
        simp [zU]
        simp only [vC, y_cl]
        split
        · exact (k2 y (by omega)).2.2
        · rfl
      | 9 => simp [zU]; apply key; intro y; simp only [vC]; rw [hM 6 (by omega)]
      | 10 => simp [zU]; apply key; intro y; simp only [vC]; rw [hM 7 (by omega)]
      | 11 => simp [zU]; apply key; intro y; simp only [vC]; rw [hM 8 (by omega)]
      | 12 => simp [zU]; apply key; intro y; simp only [vC]; rw [hM 9 (by omega)]
      | 13 =>
        simp [zU]
        rw [← hvC]
        simp only [vC, y_cl]
        rw [hM 5 (by omega), k1 y]
        by_cases q3 : y = 3
        · simp [q3]
        · by_cases q0 : y = 0
          · simp [q0]
          · simp [q3, q0]
      | 14 =>
        simp [zU]; apply key; intro y; simp only [vC]; rw [m12]
        rcases hz with hz | hz <;> rw [hz]
        · rw [show ((14 : Int)).toNat = 14 from rfl, hM 14 (by omega)]
        · rw [show ((15 : Int)).toNat = 15 from rfl, hM 15 (by omega)]
      | 15 => simp [zU]; apply key; intro y; simp only [vC]; rw [m12]
      | k + 16 => simp [zU]; apply key; intro y; simp only [vC]
    · exact zrl_U (zrl_same hz m12) (by omega)
    · rw [zU_off 12 (by omega), m12]; exact hC.1.2.2.1
    · rw [zU_ne (by omega), hM 20 (by omega), show f_ring S.1 x 4 = S.1 4 from by funext y; simp [f_ring]]
      exact hC.1.2.2.2
  · rw [hC.1.1] at q
    apply q
    rw [hh.2]
    rfl
theorem m_isAnyIn (hW : y_W (vM μ co cn)) (h1 : ¬ f_ins (vM μ co cn) = 0 → K (some (.inl 1)) μ) (h0 : f_ins (vM μ co cn) = 0 → K (some (.inl 0)) μ) : zCall g d 169 [.inr (.inr ((0, 12), 119))] μ K := by
  have w := v_env hW
  have e13 : vM μ co cn 13 3 = μ 119 6 := by simp only [vM]; rfl
  refine sX12_isAnyIn ?_
  have lp : ∀ (k j : Nat), (j : Int) + k = μ 119 6 → (∀ i : Nat, i < j → vM μ co cn 2 (i : Int) = -1) → zT g d mX12_isAnyIn K 2 [some (.inr (.inr ((0, 12), 119))), some (.inl (j : Int))] [] μ := by
    intro k
    induction k with
    | zero =>
      intro j hj hn
      refine sX12_isAnyIn_2 ⟨fun _ => h0 (f_bits_0.2 (fun i hi => ?_)), fun q => by omega⟩
      by_cases q : i < j
      · simp [hn i q]
      · have := ((hW.2.2.2 (i : Int) (by omega)).2.2.2 (by omega)).1
        simp [this]
    | succ k ih =>
      intro j hj hn
      have e2 : vM μ co cn 2 (j : Int) = μ 130 (j : Int) := y_in (by omega)
      refine sX12_isAnyIn_2 ⟨fun q => by omega, fun q => ⟨by omega, fun q2 => ?_, fun q2 => h1 (fun hh => ?_)⟩⟩
      · rw [zw_suc (by omega)]
        refine ih (j + 1) (by omega) (fun i hi => ?_)
        by_cases q5 : i = j
        · subst q5; rw [e2]; exact q2
        · exact hn i (by omega)
      · have := f_bits_0.1 hh j (by omega)
        simp [e2, q2] at this
  exact lp (μ 119 6).toNat 0 (by omega) (fun i hi => by omega)
theorem f_ins_0 (hW : y_W Y) (h : f_ins Y = 0) : ∀ s, 0 ≤ s ∧ s < 23 → Y 0 s = -1 ∧ Y 1 s = -1 := by
  have w := hW.1
  have hz : ∀ e, 0 ≤ e ∧ e < 12 → Y 2 e = -1 := by
    intro e he
    have := f_bits_0.1 h e.toNat (by omega)
    rw [show ((e.toNat : Nat) : Int) = e from by omega] at this
    simpa using this
  intro s hs
  have ws := hW.2.2.1 s hs
  constructor
  · apply Classical.byContradiction
    intro q
    have a := ws.2.2.1 q
    have := hz (Y 0 s) (by omega)
    omega
  · apply Classical.byContradiction
    intro q
    have a := ws.2.2.2 q
    have := hz (Y 1 s) (by omega)
    omega
theorem M_ring (hd : 2 ≤ d) (hC : mS μ S) (hI : iS n S) (h : ∀ μ', zEd μ' μ → mS μ' (o_ring S x).2 → K (some (.inl (o_ring S x).1)) μ') : zCall g d 170 [.inr (.inr ((0, 12), 119)), .inl x] μ K := by
  have w := hI.env
  have hC0 : mS (zU μ 119 33 0) S := hC.thr
  have hE : zEd (zU μ 119 33 0) μ := (zEd.refl μ).u (by omega)
  refine sX12_ring ⟨by omega, ?_⟩
  generalize zU μ 119 33 0 = N at *
  have e := hC0.env
  have hv := hI.ver
  have h7 : mK N (S.1 13 3) (zX S) := hC0.2.2.2.2.2.2
  have no : ¬ ((4 ≤ x ∧ x ≤ 23) ∧ f_ins S.1 = 0) → K (some (.inl (-1))) N := by
    intro q
    unfold o_ring at h
    rw [if_neg q] at h
    exact h N hE hC0
  refine m_in (fun q => zb1 (m_isAnyIn (co := S.1 14) (cn := S.1 15 0) (hC0.W hI) (fun q2 => zb1 (no (fun hh => ?_))) (fun q2 => zb0 (sX12_fresh ?_)))) (fun q => zb0 (no (by omega)))
  · rw [hC0.1.1] at q2
    exact q2 hh.2
  · rw [hC0.1.1] at q2
    unfold o_ring at h
    rw [if_pos ⟨q, q2⟩] at h
    have bf := f_ins_0 hI.W q2
    have lp : ∀ (k j : Nat) (M : zM), j + k = 23 → (∀ j, ¬ (120 ≤ j ∧ j ≤ 124) → M j = zU N 119 0 x j) → (∀ i, 0 ≤ i ∧ i < (j : Int) → M 120 i = 30 ∧ M 121 i = 3 ∧ M 122 i = 0 ∧ M 123 i = -1 ∧ M 124 i = -1) → zT g (d - 1) mX12_fresh (zNn fun μ3 => K (some (.inl (N 119 0))) (zU μ3 119 74 (zw (μ3 119 74 + 1)))) 2 [some (.inr (.inr ((0, 12), 119))), some (.inl (j : Int))] [] M := by
      intro k
      induction k with
      | zero =>
        intro j M hj hM hk
        obtain rfl : j = 23 := by omega
        refine sX12_fresh_2 ⟨fun _ => zn ?_, fun q => by omega⟩
        have m0 : M 119 0 = x := by rw [hM 119 (by omega), zU_eq]
        have ms : ∀ a, ¬ a = 0 → M 119 a = N 119 a := fun a ha => by rw [hM 119 (by omega), zU_ne (by omega)]
        have mo : ∀ j, ¬ (119 ≤ j ∧ j ≤ 124) → M j = N j := fun j hj => by rw [hM j (by omega), zU_off j (by omega)]
        rw [m0, zU_ne (by omega), ms 74 (by omega), h7.1, zwi (x := zX S 8 1 + 1) (by omega) (by omega), e.1]
        have c14 : f_ring S.1 x 14 = S.1 14 := by funext y; simp [f_ring]
        have c15 : f_ring S.1 x 15 = S.1 15 := by funext y; simp [f_ring]
        have hvM := hC0.1.1
        refine h _ (fun j hj => by rw [zU_off j (by omega), zU_off j (by omega), mo j (by omega), hE j hj]) (mS.ver (hC0.yard ⟨?_, ?_, ?_⟩ (fun j hj _ => by rw [zU_off j (by omega), mo j (by omega)]) (fun a ha _ => by rw [zU_ne (by omega), ms a (by omega)])) hI.nver)
        · rw [c14, c15]
          have a1 : vM (zU M 119 14 x) (S.1 14) (S.1 15 0) = zU (vM M (S.1 14) (S.1 15 0)) 5 0 x := mU5 (i := 0) (Or.inl rfl)
          rw [a1]
          funext k y
          unfold f_ring
          have key : ∀ k', (∀ y, vM M (S.1 14) (S.1 15 0) k' y = vM N (S.1 14) (S.1 15 0) k' y) → vM M (S.1 14) (S.1 15 0) k' y = S.1 k' y := fun k' hk => by rw [hk y, hvM]
          match k with
          | 0 =>
            simp [zU]
            simp only [vM, y_cl]
            split
            · rw [(hk y (by omega)).2.2.2.1, (bf y (by omega)).1]
            · rename_i q9
              rw [← hvM]; simp only [vM, y_cl]; rw [if_neg q9]
          | 1 =>
            simp [zU]
            simp only [vM, y_cl]
            split
            · rw [(hk y (by omega)).2.2.2.2, (bf y (by omega)).2]
            · rename_i q9
              rw [← hvM]; simp only [vM, y_cl]; rw [if_neg q9]
          | 2 => simp [zU]; apply key; intro y; simp only [vM]; rw [mo 130 (by omega), ms 6 (by omega)]
          | 3 => simp [zU]; apply key; intro y; simp only [vM]; rw [mo 131 (by omega), ms 6 (by omega)]
          | 4 => simp [zU]; apply key; intro y; simp only [vM]; rw [mo 129 (by omega)]
          | 5 =>
            simp [zU]; rw [key 5 (fun y => by
              simp only [vM, y_cl]
              split
              · exact ms _ (by omega)
              · rfl)]
          | 6 =>
            simp [zU]
            simp only [vM, y_cl]
            split
            · exact (hk y (by omega)).1
            · rfl
          | 7 =>
            simp [zU]
            simp only [vM, y_cl]
            split
            · exact (hk y (by omega)).2.1
            · rfl
          | 8 =>
            simp [zU]
            simp only [vM, y_cl]
            split
            · exact (hk y (by omega)).2.2.1
            · rfl
          | 9 => simp [zU]; apply key; intro y; simp only [vM]; rw [mo 125 (by omega)]
          | 10 => simp [zU]; apply key; intro y; simp only [vM]; rw [mo 126 (by omega)]
          | 11 => simp [zU]; apply key; intro y; simp only [vM]; rw [mo 127 (by omega)]
          | 12 => simp [zU]; apply key; intro y; simp only [vM]; rw [mo 128 (by omega)]
          | 13 =>
            simp [zU]
            rw [← hvM]
            simp only [vM]
            rw [ms 6 (by omega), m0, ms 16 (by omega), ms 17 (by omega)]
            by_cases q3 : y = 3
            · simp [q3]
            · by_cases q0 : y = 0
              · simp [q0]
              · simp [q3, q0]
          | 14 => simp [zU]; apply key; intro y; simp only [vM]
          | 15 => simp [zU]; apply key; intro y; simp only [vM]
          | k + 16 => simp [zU]; apply key; intro y; simp only [vM]
        · rw [c14, c15, zU_off 138 (by omega), mo 138 (by omega), zU_ne (by omega), ms 28 (by omega)]; exact hC0.1.2.1
        · rw [zU_ne (by omega), ms 42 (by omega)]; exact hC0.1.2.2
      | succ k ih =>
        intro j M hj hM hk
        refine sX12_fresh_2 ⟨fun q => by omega, fun q => ⟨by omega, ?_⟩⟩
        rw [zw_suc (by omega)]
        refine ih (j + 1) _ (by omega) (fun q hq => by rw [zU_off q (by omega), zU_off q (by omega), zU_off q (by omega), zU_off q (by omega), zU_off q (by omega)]; exact hM q hq) (fun i hi => ?_)
        by_cases q5 : i = (j : Int)
        · subst q5; simp [zU]
        · have := hk i (by omega)
          simp [zU, q5]
          exact this
    exact lp 23 0 _ (by omega) (fun _ _ => rfl) (fun i hi => by omega)
end
