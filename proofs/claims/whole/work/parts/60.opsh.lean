-- needs 50 51 52 53 54 55 56 57 58 59
/-! operations: train, keep, again, count -/
theorem z_turn_ext {f f' m m' : Int → Int} {n : Int} (h : z_turn f m n) (hf : ∀ i, 0 ≤ i ∧ i < n → f' i = f i) (hm : ∀ t, 0 ≤ t ∧ t < n → m' t = m t) : z_turn f' m' n := by
  obtain ⟨h1, h2, h3⟩ := h
  refine ⟨fun i hi => by rw [hf i hi]; exact h1 i hi, fun i j h0 hij hj => ?_, fun t ht => ?_⟩
  · rw [hf i (by omega), hf j (by omega), hm _ (h1 i (by omega)), hm _ (h1 j (by omega))]
    exact h2 i j h0 hij hj
  · obtain ⟨i, hi, hv⟩ := h3 t ht
    exact ⟨i, hi, by rw [hf i hi]; exact hv⟩
theorem z_turn_ins {f m f' m' : Int → Int} {n p v : Int} (h : z_turn f m n) (hn : 0 ≤ n) (hp : 0 ≤ p ∧ p ≤ n) (hlt : ∀ i, 0 ≤ i ∧ i < p → m (f i) ≤ v) (hge : ∀ i, p ≤ i ∧ i < n → v < m (f i))
    (f1 : ∀ i, 0 ≤ i ∧ i < p → f' i = f i) (f2 : f' p = n) (f3 : ∀ i, p < i ∧ i ≤ n → f' i = f (i - 1)) (m1 : ∀ t, 0 ≤ t ∧ t < n → m' t = m t) (m2 : m' n = v) : z_turn f' m' (n + 1) := by
  obtain ⟨h1, h2, h3⟩ := h
  have c : ∀ i, 0 ≤ i ∧ i < n + 1 → (i < p ∧ f' i = f i ∧ 0 ≤ f i ∧ f i < n ∧ m' (f' i) = m (f i)) ∨ (i = p ∧ f' i = n ∧ m' (f' i) = v) ∨ (p < i ∧ f' i = f (i - 1) ∧ 0 ≤ f (i - 1) ∧ f (i - 1) < n ∧ m' (f' i) = m (f (i - 1))) := by
    intro i hi
    by_cases q : i < p
    · have a := f1 i (by omega)
      have b := h1 i (by omega)
      exact Or.inl ⟨q, a, b.1, b.2, by rw [a, m1 _ b]⟩
    · by_cases q2 : i = p
      · subst q2
        exact Or.inr (Or.inl ⟨rfl, f2, by rw [f2, m2]⟩)
      · have a := f3 i (by omega)
        have b := h1 (i - 1) (by omega)
        exact Or.inr (Or.inr ⟨by omega, a, b.1, b.2, by rw [a, m1 _ b]⟩)
  refine ⟨fun i hi => ?_, fun i j h0 hij hj => ?_, fun t ht => ?_⟩
  · rcases c i hi with ⟨_, a, b, b', _⟩ | ⟨_, a, _⟩ | ⟨_, a, b, b', _⟩ <;> omega
  · rcases c i (by omega) with ⟨a1, a2, a3, a4, a5⟩ | ⟨a1, a2, a3⟩ | ⟨a1, a2, a3, a4, a5⟩
    · rcases c j (by omega) with ⟨b1, b2, b3, b4, b5⟩ | ⟨b1, b2, b3⟩ | ⟨b1, b2, b3, b4, b5⟩
      · rw [a5, b5, a2, b2]; exact h2 i j h0 hij (by omega)
      · have := hlt i (by omega)
        rw [a5, b3, a2, b2]; omega
      · have := hlt i (by omega)
        have := hge (j - 1) (by omega)
        rw [a5, b5]; omega
    · rcases c j (by omega) with ⟨b1, b2, b3, b4, b5⟩ | ⟨b1, b2, b3⟩ | ⟨b1, b2, b3, b4, b5⟩
      · omega
      · omega
      · have := hge (j - 1) (by omega)
        rw [a3, b5]; omega
    · rcases c j (by omega) with ⟨b1, b2, b3, b4, b5⟩ | ⟨b1, b2, b3⟩ | ⟨b1, b2, b3, b4, b5⟩
      · omega
      · omega
      · rw [a5, b5, a2, b2]; exact h2 (i - 1) (j - 1) (by omega) (by omega) (by omega)
  · by_cases q : t = n
    · exact ⟨p, by omega, by rw [f2, q]⟩
    · obtain ⟨i, hi, hv⟩ := h3 t (by omega)
      by_cases q2 : i < p
      · exact ⟨i, by omega, by rw [f1 i (by omega)]; exact hv⟩
      · exact ⟨i + 1, by omega, by rw [f3 (i + 1) (by omega), show i + 1 - 1 = i from by omega]; exact hv⟩
section
variable {g : zG} {d : Nat} {K : Option zV → zM → Prop} {μ μ' Y X : zM} {s m : Nat} {r : List Int} {S : zS} {co : Int → Int} {cn n x y z b i v e p t : Int}
def x_train (X : zM) (x y z : Int) : zM := zU (zU (zU (zU X 4 (X 8 0) x) 5 (X 8 0) y) 6 (X 8 0) z) 8 0 (X 8 0 + 1)
def o_train (S : zS) (x y z : Int) : Int × zS := if (0 ≤ x ∧ x ≤ 2000) ∧ (0 ≤ y ∧ y ≤ 5) ∧ (1 ≤ z ∧ z ≤ 600) ∧ zX S 8 0 < 8 then (zX S 8 0, sX S (x_train (zX S) x y z)) else (-1, S)
theorem C_train (hd : 2 ≤ d) (hC : cS μ S) (hI : iS n S) (h : ∀ μ', zEc μ' μ → cS μ' (o_train S x y z).2 → K (some (.inl (o_train S x y z).1)) μ') : zCall g d 141 [.inr (.inr ((0, 11), 0)), .inl x, .inl y, .inl z] μ K := by
  have hN : cN μ (zX S) := hC.2.2.2.2.2.1
  have hi : iN S.1 (zX S) := hI.2.2.2.2.2.2.1
  have i8 := hi.1
  have n1 := hN.1
  have tn := hN.2.2.2
  have no : ¬ ((0 ≤ x ∧ x ≤ 2000) ∧ (0 ≤ y ∧ y ≤ 5) ∧ (1 ≤ z ∧ z ≤ 600) ∧ zX S 8 0 < 8) → K (some (.inl (-1))) μ := by
    intro q
    unfold o_train at h
    rw [if_neg q] at h
    exact h μ (zEc.refl μ) hC
  refine sX11_train ⟨fun _ => no (by omega), fun _ => ⟨fun _ => no (by omega), fun _ => ⟨fun _ => no (by omega), fun _ => ⟨fun _ => no (by omega), fun _ => ⟨fun _ => no (by omega), fun _ => ⟨fun _ => ⟨fun _ => no (by omega), fun _ => ⟨by omega, sX8_enlist ⟨by omega, ?_⟩⟩⟩, fun _ => no (by omega)⟩⟩⟩⟩⟩⟩
  unfold o_train at h
  rw [if_pos (by omega)] at h
  rw [n1]
  have m79 : ∀ t, 0 ≤ t ∧ t < zX S 8 0 → zU (zU (zU μ 79 (zX S 8 0) x) 80 (zX S 8 0) y) 81 (zX S 8 0) z 79 t = zX S 4 t := by
    intro t ht
    rw [zU_off 79 (by omega), zU_off 79 (by omega), zU_ne (by omega)]
    exact (hN.2.1 t ht).1
  have m83 : zU (zU (zU μ 79 (zX S 8 0) x) 80 (zX S 8 0) y) 81 (zX S 8 0) z 83 = μ 83 := by rw [zU_off 83 (by omega), zU_off 83 (by omega), zU_off 83 (by omega)]
  have m78 : zU (zU (zU μ 79 (zX S 8 0) x) 80 (zX S 8 0) y) 81 (zX S 8 0) z 78 = μ 78 := by rw [zU_off 78 (by omega), zU_off 78 (by omega), zU_off 78 (by omega)]
  have mO : ∀ j, ¬ (j = 79 ∨ j = 80 ∨ j = 81) → zU (zU (zU μ 79 (zX S 8 0) x) 80 (zX S 8 0) y) 81 (zX S 8 0) z j = μ j := fun j hj => by rw [zU_off j (by omega), zU_off j (by omega), zU_off j (by omega)]
  have m79' : zU (zU (zU μ 79 (zX S 8 0) x) 80 (zX S 8 0) y) 81 (zX S 8 0) z 79 (zX S 8 0) = x ∧ zU (zU (zU μ 79 (zX S 8 0) x) 80 (zX S 8 0) y) 81 (zX S 8 0) z 80 (zX S 8 0) = y ∧ zU (zU (zU μ 79 (zX S 8 0) x) 80 (zX S 8 0) y) 81 (zX S 8 0) z 81 (zX S 8 0) = z := by
    refine ⟨by rw [zU_off 79 (by omega), zU_off 79 (by omega), zU_eq], by rw [zU_off 80 (by omega), zU_eq], zU_eq⟩
  have m80 : ∀ t, 0 ≤ t ∧ t < zX S 8 0 → zU (zU (zU μ 79 (zX S 8 0) x) 80 (zX S 8 0) y) 81 (zX S 8 0) z 80 t = zX S 5 t ∧ zU (zU (zU μ 79 (zX S 8 0) x) 80 (zX S 8 0) y) 81 (zX S 8 0) z 81 t = zX S 6 t := by
    intro t ht
    refine ⟨?_, ?_⟩
    · rw [zU_off 80 (by omega), zU_ne (by omega), zU_off 80 (by omega)]
      exact (hN.2.1 t ht).2.1
    · rw [zU_ne (by omega), zU_off 81 (by omega), zU_off 81 (by omega)]
      exact (hN.2.1 t ht).2.2
  generalize zU (zU (zU μ 79 (zX S 8 0) x) 80 (zX S 8 0) y) 81 (zX S 8 0) z = M0 at *
  have fin : ∀ (p : Int) (M : zM), (0 ≤ p ∧ p ≤ zX S 8 0) → (∀ j, ¬ j = 83 → M j = M0 j) → (∀ i, 0 ≤ i ∧ i < p → M 83 i = μ 83 i) → (∀ i, p < i ∧ i ≤ zX S 8 0 → M 83 i = μ 83 (i - 1)) → (∀ i, p ≤ i ∧ i < zX S 8 0 → x < zX S 4 (μ 83 i)) → (∀ i, 0 ≤ i ∧ i < p → zX S 4 (μ 83 i) ≤ x) → K (some (.inl (zX S 8 0))) (zU (zU M 83 p (zX S 8 0)) 78 3 (zw (M 78 3 + 1))) := by
    intro p M hp hM a1 a2 a3 a4
    have q78 : M 78 3 = zX S 8 0 := by rw [hM 78 (by omega), m78, n1]
    rw [q78, zwi (x := zX S 8 0 + 1) (by omega) (by omega)]
    have w83 : ∀ v, zU (zU M 83 p (zX S 8 0)) 78 3 v 83 = zU M 83 p (zX S 8 0) 83 := fun v => zU_off 83 (by omega)
    have wO : ∀ j, ¬ (j = 83 ∨ j = 78) → ∀ v, zU (zU M 83 p (zX S 8 0)) 78 3 v j = M0 j := fun j hj v => by rw [zU_off j (by omega), zU_off j (by omega), hM j (by omega)]
    refine h _ (fun j hj => by rw [wO j (by omega), mO j (by omega)]) (hC.tr (fun j hj _ => by rw [wO j (by omega), mO j (by omega)]) ⟨?_, fun i hi2 => ?_, fun i hi2 => ?_, ?_⟩ (fun k hk => ?_) ?_)
    · unfold x_train; rw [zU_eq, zU_eq]
    · unfold x_train at hi2 ⊢
      rw [zU_eq] at hi2
      rw [wO 79 (by omega), wO 80 (by omega), wO 81 (by omega), zU_off 4 (by omega), zU_off 4 (by omega), zU_off 4 (by omega), zU_off 5 (by omega), zU_off 5 (by omega), zU_off 6 (by omega)]
      by_cases q : i = zX S 8 0
      · subst q
        rw [zU_eq, zU_eq, zU_eq]; exact m79'
      · rw [zU_ne (by omega), zU_ne (by omega), zU_off 5 (by omega), zU_ne (by omega), zU_off 6 (by omega), zU_off 6 (by omega)]
        exact ⟨m79 i (by omega), m80 i (by omega)⟩
    · unfold x_train
      rw [wO 82 (by omega), mO 82 (by omega), zU_off 7 (by omega), zU_off 7 (by omega), zU_off 7 (by omega), zU_off 7 (by omega)]
      exact hN.2.2.1 i hi2
    · have e8 : x_train (zX S) x y z 8 0 = zX S 8 0 + 1 := by unfold x_train; rw [zU_eq]
      have e4 : x_train (zX S) x y z 4 = zU (zX S) 4 (zX S 8 0) x 4 := by unfold x_train; rw [zU_off 4 (by omega), zU_off 4 (by omega), zU_off 4 (by omega)]
      rw [e8, e4, w83]
      refine z_turn_ins tn (by omega) hp a4 a3 (fun i hi2 => ?_) zU_eq (fun i hi2 => ?_) (fun t ht => zU_ne (by omega)) zU_eq
      · rw [zU_ne (by omega)]; exact a1 i hi2
      · rw [zU_ne (by omega)]; exact a2 i hi2
    · unfold x_train
      rw [zU_off k (by omega), zU_off k (by omega), zU_off k (by omega), zU_off k (by omega)]
    · unfold x_train
      rw [zU_ne (by omega), zU_off 8 (by omega), zU_off 8 (by omega), zU_off 8 (by omega)]
  have loop : ∀ (p : Nat) (M : zM), ((p : Int) ≤ zX S 8 0) → (∀ j, ¬ j = 83 → M j = M0 j) → (∀ i, 0 ≤ i ∧ i < (p : Int) → M 83 i = μ 83 i) → (∀ i, (p : Int) < i ∧ i ≤ zX S 8 0 → M 83 i = μ 83 (i - 1)) → (∀ i, (p : Int) ≤ i ∧ i < zX S 8 0 → x < zX S 4 (μ 83 i)) → zT g (d - 1) mX8_enlist (zIi fun r2 μ1 => K (some (.inl r2)) μ1) 34 [some (.inr (.inr ((0, 8), 78))), some (.inl x), none, none, some (.inl (zX S 8 0)), some (.inl (p : Int))] [] M := by
    intro p
    induction p with
    | zero =>
      intro M hp hM a1 a2 a3
      exact sX8_enlist_34 ⟨fun _ => ⟨by omega, zi (fin 0 M (by omega) hM a1 a2 a3 (fun i hi => by omega))⟩, fun q => by omega⟩
    | succ p ih =>
      intro M hp hM a1 a2 a3
      have zp : zw (((p + 1 : Nat) : Int) - 1) = (p : Int) := by rw [zwi (by omega) (by omega)]; omega
      have zp2 : zw (((p + 1 : Nat) : Int) + (-1)) = (p : Int) := by rw [zwi (by omega) (by omega)]; omega
      have a0 := a1 (p : Int) (by omega)
      have b0 := tn.1 (p : Int) (by omega)
      refine sX8_enlist_34 ⟨fun q => by clear zp zp2; omega, fun q => ?_⟩
      rw [zp, zp2, a0, hM 79 (by omega), m79 _ b0]
      clear zp zp2
      refine ⟨by omega, by omega, fun q2 => ⟨by omega, zi (fin ((p + 1 : Nat) : Int) M (by omega) hM a1 a2 a3 (fun i hi2 => ?_))⟩, fun q2 => ⟨by omega, ?_⟩⟩
      · by_cases q3 : i = (p : Int)
        · subst q3; exact q2
        · have := tn.2.1 i (p : Int) (by omega) (by omega) (by omega)
          omega
      · refine ih _ (by omega) (fun j hj => by rw [zU_off j hj]; exact hM j hj) (fun i hi2 => by rw [zU_ne (by omega)]; exact a1 i (by omega)) (fun i hi2 => ?_) (fun i hi2 => ?_)
        · by_cases q3 : i = ((p + 1 : Nat) : Int)
          · subst q3
            rw [zU_eq, show ((p + 1 : Nat) : Int) - 1 = (p : Int) from by omega]
          · rw [zU_ne (by omega)]; exact a2 i (by omega)
        · by_cases q3 : i = (p : Int)
          · subst q3; exact q2
          · exact a3 i (by omega)
  have := loop (zX S 8 0).toNat M0 (by omega) (fun _ _ => rfl) (fun i _ => by rw [m83]) (fun i hi2 => by omega) (fun i hi2 => by omega)
  rw [show (((zX S 8 0).toNat : Nat) : Int) = zX S 8 0 from by omega] at this
  exact this
theorem M_train (hd : 2 ≤ d) (hC : mS μ S) (hI : iS n S) (h : ∀ μ', zEd μ' μ → mS μ' (o_train S x y z).2 → K (some (.inl (o_train S x y z).1)) μ') : zCall g d 249 [.inr (.inr ((0, 12), 119)), .inl x, .inl y, .inl z] μ K := by
  have hC0 : mS (zU μ 119 33 0) S := hC.thr
  have hE : zEd (zU μ 119 33 0) μ := (zEd.refl μ).u (by omega)
  refine sX12_train ⟨by omega, ?_⟩
  generalize zU μ 119 33 0 = N at *
  have hN : mN N (zX S) := hC0.2.2.2.2.2.1
  have hi : iN S.1 (zX S) := hI.2.2.2.2.2.2.1
  have i8 := hi.1
  have n1 := hN.1
  have no : ¬ ((0 ≤ x ∧ x ≤ 2000) ∧ (0 ≤ y ∧ y ≤ 5) ∧ (1 ≤ z ∧ z ≤ 600) ∧ zX S 8 0 < 8) → K (some (.inl (-1))) N := by
    intro q
    unfold o_train at h
    rw [if_neg q] at h
    exact h N hE hC0
  refine m_in (fun q => zb1 (m_in (fun q2 => zb1 (m_in (fun q3 => zb1 ⟨fun q4 => ⟨by omega, ?_⟩, fun q4 => no (by omega)⟩) (fun q3 => zb0 (no (by omega))))) (fun q2 => zb0 (no (by omega))))) (fun q => zb0 (no (by omega)))
  unfold o_train at h
  rw [if_pos (by omega)] at h
  rw [n1, zwi (x := zX S 8 0 + 1) (by omega) (by omega), zwi (x := zX S 8 0 + 1 - 1) (by omega) (by omega), show zX S 8 0 + 1 - 1 = zX S 8 0 from by omega]
  refine h _ (((((hE.u (by omega)).u (by omega)).u (by omega)).u (by omega)).u (by omega)) (hC0.tr (fun j hj _ => by rw [zU_off j (by omega), zU_off j (by omega), zU_off j (by omega), zU_off j (by omega), zU_off j (by omega)]) (fun i hi _ => by rw [zU_ne (by omega), zU_off 119 (by omega), zU_off 119 (by omega), zU_off 119 (by omega), zU_off 119 (by omega)]) ⟨?_, fun i hi2 => ?_⟩ (fun k hk => ?_) ?_)
  · unfold x_train; rw [zU_eq, zU_eq]
  · unfold x_train at hi2 ⊢
    rw [zU_eq] at hi2
    have l7 := hi.2.2.1 (zX S 8 0) (by omega)
    by_cases q : i = zX S 8 0
    · subst q
      simp [zU]
      exact l7.symm
    · have := hN.2 i (by omega)
      simp [zU, q]
      exact this
  · unfold x_train
    rw [zU_off k (by omega), zU_off k (by omega), zU_off k (by omega), zU_off k (by omega)]
  · unfold x_train
    rw [zU_ne (by omega), zU_off 8 (by omega), zU_off 8 (by omega), zU_off 8 (by omega)]
end
