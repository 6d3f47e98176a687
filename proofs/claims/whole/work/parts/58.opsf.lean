-- needs 50 51 52 53 54 55 56 57
/-! operations: nobody, comes, leaves, fits, plan, wrong -/
theorem zli_mem {f : Int → Int} {l : List Int} (h : zli f l) {e : Int} {k : Nat} (hk : k < l.length) (he : f (k : Int) = e) : e ∈ l := by
  have := h k _ (List.getElem?_eq_getElem hk)
  rw [← he, this]
  exact List.getElem_mem hk
theorem zli_not {f : Int → Int} {l : List Int} (h : zli f l) {e : Int} (hn : ∀ k : Nat, k < l.length → ¬ f (k : Int) = e) : ¬ e ∈ l := by
  intro hm
  obtain ⟨k, hk, hv⟩ := List.getElem_of_mem hm
  exact hn k hk (by rw [h k _ (List.getElem?_eq_getElem hk)]; exact hv)
theorem zix_none : ∀ (l : List Int) (e : Int), zix l e = -1 ↔ ¬ e ∈ l
  | [], e => by simp [zix]
  | a :: l, e => by
    have ih := zix_none l e
    simp only [zix, List.mem_cons]
    by_cases q : a = e
    · rw [if_pos q]; simp [q]
    · rw [if_neg q]
      by_cases q2 : zix l e = -1
      · rw [if_pos q2]
        have := ih.1 q2
        simp [this]
        exact fun h => q h.symm
      · rw [if_neg q2]
        have h1 : e ∈ l := Classical.byContradiction (fun hn => q2 (ih.2 hn))
        have h2 : -1 ≤ zix l e := by
          clear ih q2 h1 q
          induction l with
          | nil => simp [zix]
          | cons b l ih2 =>
            simp only [zix]
            split
            · omega
            · split <;> omega
        simp [h1]
        omega
theorem zix_ne {a e : Int} {l : List Int} (h : ¬ a = e) : zix (a :: l) e = if zix l e = -1 then -1 else zix l e + 1 := if_neg h
theorem zix_eq {a e : Int} {l : List Int} (h : a = e) : zix (a :: l) e = 0 := if_pos h
theorem zix_ge : ∀ (l : List Int) (e : Int), -1 ≤ zix l e
  | [], e => by simp [zix]
  | b :: l, e => by
    have := zix_ge l e
    simp only [zix]
    split
    · omega
    · split <;> omega
theorem zix_snoc : ∀ (l : List Int) (a e : Int), ¬ a ∈ l → zix (l ++ [a]) e = if e = a then (l.length : Int) else zix l e
  | [], a, e, _ => by
    show (if a = e then 0 else if (-1 : Int) = -1 then -1 else -1 + 1) = if e = a then ((0 : Nat) : Int) else -1
    by_cases q : a = e
    · rw [if_pos q, if_pos q.symm]; rfl
    · rw [if_neg q, if_pos rfl, if_neg (fun h => q h.symm)]
  | b :: l, a, e, hn => by
    have ih := zix_snoc l a e (fun h => hn (List.mem_cons_of_mem _ h))
    have g := zix_ge l e
    have hb : ¬ b = a := fun h => hn (by rw [h]; exact List.mem_cons_self)
    simp only [List.cons_append, zix, ih, List.length_cons]
    by_cases q : b = e
    · rw [if_pos q, if_pos q, if_neg (fun h => hb (q.trans h))]
    · rw [if_neg q, if_neg q]
      by_cases q2 : e = a
      · simp only [q2, if_true]
        rw [if_neg (by omega)]
        omega
      · simp only [q2, if_false]
section
variable {g : zG} {d : Nat} {K : Option zV → zM → Prop} {μ μ' Y : zM} {s m : Nat} {r : List Int} {S : zS} {co : Int → Int} {cn n x y z b i v e p : Int}
/-- a row of ints is filled -/
theorem c_fill (hm : m < 1000000) (h : ∀ μ', (∀ j, ¬ j = s → μ' j = μ j) → (∀ i, 0 ≤ i ∧ i < (m : Int) → μ' s i = x) → K none μ') : zCall g d 285 [.inr (.inr ((1, m), s)), .inl x] μ K := by
  refine sJ7_fill_53178 ?_
  have loop : ∀ (k i : Nat) (M : zM), i + k = m → (∀ j, ¬ j = s → M j = μ j) → (∀ q, 0 ≤ q ∧ q < (i : Int) → M s q = x) → zT g d mJ7_fill_53178 K 5 [some (.inr (.inr ((1, m), s))), some (.inl x), some (.inl (i : Int)), some (.inl (m : Int))] [] M := by
    intro k
    induction k with
    | zero =>
      intro i M hi h1 h2
      obtain rfl : i = m := by omega
      exact sJ7_fill_53178_5 ⟨fun _ => h M h1 h2, fun q => by omega⟩
    | succ k ih =>
      intro i M hi h1 h2
      refine sJ7_fill_53178_5 ⟨fun q => by omega, fun q => ⟨by omega, ?_⟩⟩
      rw [zw_suc (by omega)]
      refine ih (i + 1) _ (by omega) (fun j hj => by rw [zU_off j hj]; exact h1 j hj) (fun q hq => ?_)
      by_cases q2 : q = (i : Int)
      · subst q2; rw [zU_eq]
      · rw [zU_ne (by omega)]; exact h2 q (by omega)
  exact loop m 0 μ (by omega) (fun _ _ => rfl) (fun q hq => by omega)
theorem cS.bb {c l : List Int} (h : cS μ S) (e : ∀ j, ¬ (j = 62 ∨ j = 63 ∨ j = 64) → ¬ z_scr j → μ' j = μ j) (hB : cB μ' c l) : cS μ' (sB S c l) := by
  unfold z_scr at e
  obtain ⟨h1, h2, h3, h4, h5, h6, h7⟩ := h
  exact ⟨h1.same (fun j hj => e j (by omega) (by omega)), h2.same (by rw [e 12 (by omega) (by omega)]) (e 13 (by omega) (by omega)), h3.same (by rw [e 18 (by omega) (by omega)]) (e 19 (by omega) (by omega)), hB, h5.same (e 71 (by omega) (by omega)) (e 72 (by omega) (by omega)) (e 10 (by omega) (by omega)) (e 11 (by omega) (by omega)), h6.same (by rw [e 78 (by omega) (by omega)]) (fun j _ _ => e j (by omega) (by omega)), h7.same (by rw [e 0 (by omega) (by omega)]) (fun j _ _ => e j (by omega) (by omega))⟩
theorem mS.bb {c l : List Int} (h : mS μ S) (e : ∀ j, ¬ (j = 119 ∨ j = 136 ∨ j = 137) → ¬ z_scm j → μ' j = μ j) (e2 : ∀ i, ¬ (i = 23 ∨ i = 25) → ¬ z_scs i → μ' 119 i = μ 119 i) (hB : mB μ' c l) : mS μ' (sB S c l) := by
  unfold z_scm at e
  unfold z_scs at e2
  obtain ⟨h1, h2, h3, h4, h5, h6, h7⟩ := h
  exact ⟨h1.same (fun j _ _ => e j (by omega) (by omega)) (fun i hi => e2 i (by omega) (by omega)) (e 138 (by omega) (by omega)), h2.same (e2 30 (by omega) (by omega)) (e 139 (by omega) (by omega)), h3.same (e2 32 (by omega) (by omega)) (e 140 (by omega) (by omega)), hB, h5.same (fun j _ _ => e j (by omega) (by omega)), h6.same (e2 18 (by omega) (by omega)) (fun j _ _ => e j (by omega) (by omega)), h7.same (e2 74 (by omega) (by omega)) (fun j _ _ => e j (by omega) (by omega))⟩
abbrev zc (S : zS) : List Int := S.2.2.2.1
abbrev zl (S : zS) : List Int := S.2.2.2.2.1
def o_nobody (S : zS) : Int × zS := ((zc S).length, sB S [] [])
theorem C_nobody (hd : 2 ≤ d) (hC : cS μ S) (h : ∀ μ', zEc μ' μ → cS μ' (o_nobody S).2 → K (some (.inl (o_nobody S).1)) μ') : zCall g d 133 [.inr (.inr ((0, 11), 0))] μ K := by
  have hB : cB μ (zc S) (zl S) := hC.2.2.2.1
  refine sX11_nobody ⟨by omega, sX0_forget ⟨by omega, c_fill (by omega) (fun M hM hf => zn (zi ?_))⟩⟩
  rw [hB.1.1]
  refine h M (fun j hj => by rw [hM j (by omega), zU_off j (by omega), zU_off j (by omega)]) (hC.bb (fun j hj _ => by rw [hM j (by omega), zU_off j (by omega), zU_off j (by omega)]) ⟨⟨?_, zli_nil _⟩, ?_, fun e he => ?_⟩)
  · rw [hM 62 (by omega), zU_ne (by omega), zU_eq]; rfl
  · rw [hM 62 (by omega), zU_eq]; rfl
  · rw [hf e (by omega)]; rfl
theorem M_nobody (hC : mS μ S) (h : ∀ μ', zEd μ' μ → mS μ' (o_nobody S).2 → K (some (.inl (o_nobody S).1)) μ') : zCall g d 230 [.inr (.inr ((0, 12), 119))] μ K := by
  have hB : mB μ (zc S) (zl S) := hC.2.2.2.1
  refine sX12_nobody ?_
  rw [hB.1.1]
  refine h _ ((((zEd.refl μ).u (by omega)).u (by omega)).u (by omega)) (hC.bb (fun j hj _ => by rw [zU_off j (by omega), zU_off j (by omega), zU_off j (by omega)]) (fun i hi hs => by unfold z_scs at hs; rw [zU_ne (by omega), zU_ne (by omega), zU_ne (by omega)]) ⟨⟨?_, zli_nil _⟩, ?_, zli_nil _⟩)
  · rw [zU_ne (by omega), zU_eq]; rfl
  · rw [zU_eq]; rfl
/-- whether one comes -/
theorem c_isComing {c l : List Int} (hB : cB μ c l) (hc : c.length ≤ 6) (h1 : e ∈ c → K (some (.inl 1)) μ) (h0 : ¬ e ∈ c → K (some (.inl 0)) μ) : zCall g d 0 [.inr (.inr ((0, 0), 62)), .inl e] μ K := by
  obtain ⟨⟨h62, hl⟩, _⟩ := hB
  refine sX0_isComing ?_
  have loop : ∀ (k i : Nat), i + k = c.length → (∀ q : Nat, q < i → ¬ μ 63 (q : Int) = e) → zT g d mX0_isComing K 2 [some (.inr (.inr ((0, 0), 62))), some (.inl e), some (.inl (i : Int))] [] μ := by
    intro k
    induction k with
    | zero =>
      intro i hi hn
      exact sX0_isComing_2 ⟨fun _ => h0 (zli_not hl (fun q hq => hn q (by omega))), fun q => by omega⟩
    | succ k ih =>
      intro i hi hn
      refine sX0_isComing_2 ⟨fun q => by omega, fun q => ⟨by omega, fun q2 => ?_, fun q2 => h1 (zli_mem hl (k := i) (by omega) q2)⟩⟩
      rw [zw_suc (by omega)]
      refine ih (i + 1) (by omega) (fun q3 hq3 => ?_)
      by_cases q4 : q3 = i
      · subst q4; exact q2
      · exact hn q3 (by omega)
  exact loop c.length 0 (by omega) (fun q hq => by omega)
def o_comes (S : zS) (e : Int) : Int × zS := if (0 ≤ e ∧ e < S.1 13 3) ∧ S.1 2 e = -1 ∧ (zc S).length < 6 ∧ ¬ e ∈ zc S then (((zc S).length : Int) + 1, sB S (zc S ++ [e]) (zl S)) else (-1, S)
theorem C_comes (hd : 3 ≤ d) (hC : cS μ S) (hI : iS n S) (h : ∀ μ', zEc μ' μ → cS μ' (o_comes S e).2 → K (some (.inl (o_comes S e).1)) μ') : zCall g d 131 [.inr (.inr ((0, 11), 0)), .inl e] μ K := by
  have w := hI.env
  have ev := hC.env
  have hB : cB μ (zc S) (zl S) := hC.2.2.2.1
  have b1 : (zc S).length ≤ 6 := hI.2.2.2.2.1.1
  have h62 := hB.1.1
  have no : ¬ ((0 ≤ e ∧ e < S.1 13 3) ∧ S.1 2 e = -1 ∧ (zc S).length < 6 ∧ ¬ e ∈ zc S) → K (some (.inl (-1))) μ := by
    intro q
    unfold o_comes at h
    rw [if_neg q] at h
    exact h μ (zEc.refl μ) hC
  refine sX11_comes ⟨by omega, c_has (fun q => zb1 (c_onRoad (s := 20) (by omega) (fun q2 => zb1 (sX0_tellComing ⟨fun q3 => zi (no (fun hh => ?_)), fun q3 => ⟨by omega, c_isComing hB b1 (fun q4 => zb1 (zi (no (fun hh => hh.2.2.2 q4)))) (fun q4 => zb0 ⟨by omega, zi ?_⟩)⟩⟩)) (fun q2 => zb0 (no (fun hh => q2 (by rw [(hC.en (by omega)).1]; exact hh.2.1))))) ) (fun q => zb0 (no (fun hh => q (by omega))))⟩
  · have := hh.2.2.1
    have := hB.1.1
    omega
  · rw [(hC.en (by omega)).1] at q2
    have h62 := hB.1.1
    unfold o_comes at h
    rw [if_pos ⟨by omega, q2, by omega, q4⟩] at h
    rw [zwi (x := μ 62 4 + 1) (by omega) (by omega), h62]
    refine h _ (((zEc.refl μ).u (by omega)).u (by omega)) (hC.bb (fun j hj _ => by rw [zU_off j (by omega), zU_off j (by omega)]) ⟨⟨?_, ?_⟩, ?_, fun a ha => ?_⟩)
    · rw [zU_eq]; simp
    · rw [zU_off 63 (by omega), zU_row]
      exact zli_snoc hB.1.2
    · rw [zU_ne (by omega), zU_off 62 (by omega)]; exact hB.2.1
    · rw [zU_off 64 (by omega), zU_off 64 (by omega)]; exact hB.2.2 a ha
theorem M_comes (hd : 3 ≤ d) (hC : mS μ S) (hI : iS n S) (h : ∀ μ', zEd μ' μ → mS μ' (o_comes S e).2 → K (some (.inl (o_comes S e).1)) μ') : zCall g d 227 [.inr (.inr ((0, 12), 119)), .inl e] μ K := by
  have w := hI.env
  have b1 : (zc S).length ≤ 6 := hI.2.2.2.2.1.1
  have hC0 : mS (zU μ 119 33 0) S := hC.thr
  have hE : zEd (zU μ 119 33 0) μ := (zEd.refl μ).u (by omega)
  refine sX12_comes ⟨by omega, ?_⟩
  generalize zU μ 119 33 0 = N at *
  have ev := hC0.env
  have hB : mB N (zc S) (zl S) := hC0.2.2.2.1
  have h23 := hB.1.1
  have no : ¬ ((0 ≤ e ∧ e < S.1 13 3) ∧ S.1 2 e = -1 ∧ (zc S).length < 6 ∧ ¬ e ∈ zc S) → K (some (.inl (-1))) N := by
    intro q
    unfold o_comes at h
    rw [if_neg q] at h
    exact h N hE hC0
  refine m_isEngine (by omega) (by omega) (fun q => zb1 ⟨by omega, fun q2 => no (fun hh => q2 (by rw [(hC0.en (by omega)).1]; exact hh.2.1)), fun q2 => ⟨fun q3 => ?_, fun q3 => no (fun hh => by have := hh.2.2.1; omega)⟩⟩) (fun q => zb0 (no (fun hh => q (by omega))))
  rw [(hC0.en (by omega)).1] at q2
  have loop : ∀ (k i : Nat), i + k = (zc S).length → (∀ q : Nat, q < i → ¬ N 136 (q : Int) = e) → zT g d mX12_comes K 36 [some (.inr (.inr ((0, 12), 119))), some (.inl e), some (.inl (i : Int))] [] N := by
    intro k
    induction k with
    | zero =>
      intro i hi hn
      refine sX12_comes_36 ⟨fun _ => ⟨by omega, ?_⟩, fun q => by omega⟩
      unfold o_comes at h
      rw [if_pos ⟨by omega, q2, by omega, zli_not hB.1.2 (fun q hq => hn q (by omega))⟩] at h
      rw [zwi (x := N 119 23 + 1) (by omega) (by omega), h23]
      refine h _ ((hE.u (by omega)).u (by omega)) (hC0.bb (fun j hj _ => by rw [zU_off j (by omega), zU_off j (by omega)]) (fun i hi _ => by rw [zU_ne (by omega), zU_off 119 (by omega)]) ⟨⟨?_, ?_⟩, ?_, ?_⟩)
      · rw [zU_eq]; simp
      · rw [zU_off 136 (by omega), zU_row]
        exact zli_snoc hB.1.2
      · rw [zU_ne (by omega), zU_off 119 (by omega)]; exact hB.2.1
      · rw [zU_off 137 (by omega), zU_off 137 (by omega)]; exact hB.2.2
    | succ k ih =>
      intro i hi hn
      refine sX12_comes_36 ⟨fun q => by omega, fun q => ⟨by omega, fun q4 => ?_, fun q4 => no (fun hh => hh.2.2.2 (zli_mem hB.1.2 (k := i) (by omega) q4))⟩⟩
      rw [zw_suc (by omega)]
      refine ih (i + 1) (by omega) (fun q3 hq3 => ?_)
      by_cases q5 : q3 = i
      · subst q5; exact q4
      · exact hn q3 (by omega)
  exact loop (zc S).length 0 (by omega) (fun q hq => by omega)
def o_leaves (S : zS) (e : Int) : Int × zS := if e ∈ zc S ∧ ¬ e ∈ zl S then (((zl S).length : Int) + 1, sB S (zc S) (zl S ++ [e])) else (-1, S)
theorem l_le : ∀ (l c : List Int), l.Nodup → (∀ e ∈ l, e ∈ c) → l.length ≤ c.length
  | [], c, _, _ => by simp
  | a :: l, c, hn, hs => by
    obtain ⟨h1, h2⟩ := List.nodup_cons.mp hn
    have ha := hs a List.mem_cons_self
    have ih := l_le l (c.erase a) h2 (fun e he => (List.mem_erase_of_ne (fun q => h1 (by rw [← q]; exact he))).mpr (hs e (List.mem_cons_of_mem _ he)))
    have hp := List.length_pos_of_mem ha
    rw [List.length_erase_of_mem ha] at ih
    simp
    omega
theorem l_len {c l : List Int} (h1 : l.Nodup) (h2 : ∀ e ∈ l, e ∈ c) (e : Int) (h3 : e ∈ c) (h4 : ¬ e ∈ l) : l.length < c.length := by
  have hn : (e :: l).Nodup := List.nodup_cons.mpr ⟨h4, h1⟩
  have := l_le (e :: l) c hn (fun a ha => by
    rcases List.mem_cons.mp ha with rfl | ha
    · exact h3
    · exact h2 a ha)
  simp at this
  omega
theorem C_leaves (hd : 3 ≤ d) (hC : cS μ S) (hI : iS n S) (h : ∀ μ', zEc μ' μ → cS μ' (o_leaves S e).2 → K (some (.inl (o_leaves S e).1)) μ') : zCall g d 132 [.inr (.inr ((0, 11), 0)), .inl e] μ K := by
  have w := hI.env
  have ev := hC.env
  have hB : cB μ (zc S) (zl S) := hC.2.2.2.1
  obtain ⟨b1, b2, b3, b4, b5⟩ : iB S.1 (zc S) (zl S) := hI.2.2.2.2.1
  have no : ¬ (e ∈ zc S ∧ ¬ e ∈ zl S) → K (some (.inl (-1))) μ := by
    intro q
    unfold o_leaves at h
    rw [if_neg q] at h
    exact h μ (zEc.refl μ) hC
  refine sX11_leaves ⟨by omega, c_has (fun q => zb1 (sX0_tellLeaving ⟨by omega, c_isComing hB b1 (fun q2 => zb1 ⟨by omega, fun q3 => zi ?_, fun q3 => zi (no (fun hh => q3 ?_))⟩) (fun q2 => zb0 (zi (no (fun hh => q2 hh.1))))⟩)) (fun q => zb0 (no (fun hh => q ?_)))⟩
  · rw [hB.2.2 e (by omega)] at q3
    have q3 := (zix_none _ _).1 q3
    have ll := l_len b4 b5 e q2 q3
    unfold o_leaves at h
    rw [if_pos ⟨q2, q3⟩] at h
    have h6 := hB.2.1
    rw [zwi (x := μ 62 6 + 1) (by omega) (by omega), h6]
    refine h _ (((zEc.refl μ).u (by omega)).u (by omega)) (hC.bb (fun j hj _ => by rw [zU_off j (by omega), zU_off j (by omega)]) ⟨⟨?_, ?_⟩, ?_, fun a ha => ?_⟩)
    · rw [zU_ne (by omega), zU_off 62 (by omega)]; exact hB.1.1
    · rw [zU_off 63 (by omega), zU_off 63 (by omega)]; exact hB.1.2
    · rw [zU_eq]; simp
    · rw [zU_off 64 (by omega), zU_row, zix_snoc _ _ _ q3]
      show (if a = e then _ else _) = _
      by_cases q4 : a = e
      · rw [if_pos q4, if_pos q4]
      · rw [if_neg q4, if_neg q4]; exact hB.2.2 a ha
  · rw [hB.2.2 e (by omega)]
    exact (zix_none _ _).2 hh.2
  · have := b3 e hh.1
    omega
theorem m_leaveOf {l : List Int} (h25 : μ 119 25 = (l.length : Int)) (hl : zli (μ 137) l) (hl6 : l.length ≤ 6) (h : K (some (.inl (zix l e))) μ) : zCall g d 229 [.inr (.inr ((0, 12), 119)), .inl e] μ K := by
  refine sX12_leaveOf ?_
  have loop : ∀ (k i : Nat), i + k = l.length → (∀ q : Nat, q < i → ¬ μ 137 (q : Int) = e) → K (some (.inl (if zix (l.drop i) e = -1 then -1 else zix (l.drop i) e + (i : Int)))) μ → zT g d mX12_leaveOf K 2 [some (.inr (.inr ((0, 12), 119))), some (.inl e), some (.inl (i : Int))] [] μ := by
    intro k
    induction k with
    | zero =>
      intro i hi hn hk
      refine sX12_leaveOf_2 ⟨fun _ => ?_, fun q => by omega⟩
      rw [List.drop_of_length_le (by omega)] at hk
      exact hk
    | succ k ih =>
      intro i hi hn hk
      have hd0 : l.drop i = l[i] :: l.drop (i + 1) := List.drop_eq_getElem_cons (by omega)
      have hv := hl i _ (List.getElem?_eq_getElem (show i < l.length by omega))
      refine sX12_leaveOf_2 ⟨fun q => by omega, fun q => ⟨by omega, fun q2 => ?_, fun q2 => ?_⟩⟩
      · rw [zw_suc (by omega)]
        refine ih (i + 1) (by omega) (fun q3 hq3 => ?_) ?_
        · by_cases q5 : q3 = i
          · subst q5; exact q2
          · exact hn q3 (by omega)
        · rw [hd0, zix_ne (by rw [← hv]; exact q2)] at hk
          have gg := zix_ge (l.drop (i + 1)) e
          by_cases q6 : zix (l.drop (i + 1)) e = -1
          · rw [if_pos q6, if_pos rfl] at hk
            rw [if_pos q6]; exact hk
          · rw [if_neg q6, if_neg (by omega)] at hk
            rw [if_neg q6]
            exact k_int hk (by omega)
      · rw [hd0, zix_eq (by rw [← hv]; exact q2), if_neg (by omega)] at hk
        exact k_int hk (by omega)
  refine loop l.length 0 (by omega) (fun q hq => by omega) ?_
  rw [List.drop_zero]
  by_cases q : zix l e = -1
  · rw [if_pos q, ← q]; exact h
  · rw [if_neg q]; exact k_int h (by omega)
theorem M_leaves (hd : 3 ≤ d) (hC : mS μ S) (hI : iS n S) (h : ∀ μ', zEd μ' μ → mS μ' (o_leaves S e).2 → K (some (.inl (o_leaves S e).1)) μ') : zCall g d 228 [.inr (.inr ((0, 12), 119)), .inl e] μ K := by
  have hC0 : mS (zU μ 119 33 0) S := hC.thr
  have hE : zEd (zU μ 119 33 0) μ := (zEd.refl μ).u (by omega)
  refine sX12_leaves ?_
  generalize zU μ 119 33 0 = N at *
  have hB : mB N (zc S) (zl S) := hC0.2.2.2.1
  obtain ⟨b1, b2, b3, b4, b5⟩ : iB S.1 (zc S) (zl S) := hI.2.2.2.2.1
  have h23 := hB.1.1
  have no : ¬ (e ∈ zc S ∧ ¬ e ∈ zl S) → K (some (.inl (-1))) N := by
    intro q
    unfold o_leaves at h
    rw [if_neg q] at h
    exact h N hE hC0
  have ll : ∀ a, a ∈ zc S → ¬ a ∈ zl S → (zl S).length < (zc S).length := fun a h1 h2 => l_len b4 b5 a h1 h2
  have l6 : (zl S).length ≤ 6 := by
    have := l_le _ _ b4 b5
    omega
  have fin : ∀ b : Bool, (b = true ↔ e ∈ zc S) → zT g d mX12_leaves K 9 [some (.inr (.inr ((0, 12), 119))), some (.inl e), some (.inl (zB b)), some (.inl ((zc S).length : Int))] [] N := by
    intro b hb
    refine sX12_leaves_9 ⟨fun _ => ⟨fun q => no (fun hh => ?_), fun q => ⟨by omega, m_leaveOf hB.2.1 hB.2.2 l6 (zi ⟨fun q2 => ?_, fun q2 => no (fun hh => q2 ((zix_none _ _).2 hh.2))⟩)⟩⟩, fun q => by omega⟩
    · rw [hb.2 hh.1] at q; cases q
    · have q1 : e ∈ zc S := hb.1 (by cases b; exact absurd rfl q; rfl)
      have q2 := (zix_none _ _).1 q2
      have := ll e q1 q2
      have h25 := hB.2.1
      refine ⟨by omega, ?_⟩
      unfold o_leaves at h
      rw [if_pos ⟨q1, q2⟩] at h
      rw [zwi (x := N 119 25 + 1) (by omega) (by omega), h25]
      refine h _ ((hE.u (by omega)).u (by omega)) (hC0.bb (fun j hj _ => by rw [zU_off j (by omega), zU_off j (by omega)]) (fun i hi _ => by rw [zU_ne (by omega), zU_off 119 (by omega)]) ⟨⟨?_, ?_⟩, ?_, ?_⟩)
      · rw [zU_ne (by omega), zU_off 119 (by omega)]; exact hB.1.1
      · rw [zU_off 136 (by omega), zU_off 136 (by omega)]; exact hB.1.2
      · rw [zU_eq]; simp
      · rw [zU_off 137 (by omega), zU_row]
        exact zli_snoc hB.2.2
  have loop : ∀ (k i : Nat) (b : Bool), i + k = (zc S).length → (b = true ↔ ∃ q : Nat, q < i ∧ N 136 (q : Int) = e) → zT g d mX12_leaves K 9 [some (.inr (.inr ((0, 12), 119))), some (.inl e), some (.inl (zB b)), some (.inl (i : Int))] [] N := by
    intro k
    induction k with
    | zero =>
      intro i b hi hn
      obtain rfl : i = (zc S).length := by omega
      refine fin b ⟨fun hb => ?_, fun hm => ?_⟩
      · obtain ⟨q, hq, hv⟩ := hn.1 hb
        exact zli_mem hB.1.2 hq hv
      · refine hn.2 (Classical.byContradiction (fun hne => ?_))
        exact zli_not hB.1.2 (fun q hq hv => hne ⟨q, hq, hv⟩) hm
    | succ k ih =>
      intro i b hi hn
      refine sX12_leaves_9 ⟨fun q => by omega, fun q => ⟨fun q1 => ?_, fun q1 => ⟨by omega, fun q2 => ?_, fun q2 => ?_⟩⟩⟩
      · rw [zw_suc (by omega)]
        have hb : b = true := by cases b; exact absurd rfl q1; rfl
        refine ih (i + 1) true (by omega) ⟨fun _ => ?_, fun _ => rfl⟩
        obtain ⟨q3, h3, h4⟩ := hn.1 hb
        exact ⟨q3, by omega, h4⟩
      · rw [zw_suc (by omega)]
        have hb : b = false := by cases b; rfl; cases q1
        refine ih (i + 1) false (by omega) ⟨fun hf => (by cases hf), fun ⟨q3, h3, h4⟩ => ?_⟩
        by_cases q5 : q3 = i
        · subst q5; exact absurd h4 q2
        · rw [← hb]; exact hn.2 ⟨q3, by omega, h4⟩
      · rw [zw_suc (by omega)]
        exact ih (i + 1) true (by omega) ⟨fun _ => ⟨i, by omega, q2⟩, fun _ => rfl⟩
  exact loop (zc S).length 0 false (by omega) ⟨fun hf => (by cases hf), fun ⟨q3, h3, h4⟩ => by omega⟩
end
