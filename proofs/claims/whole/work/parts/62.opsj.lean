-- needs 50 51 52 53 54 55 56 57 58 59 60 61
/-! operations: again, count -/
section
variable {g : zG} {d : Nat} {K : Option zV → zM → Prop} {μ μ' Y X : zM} {s m i : Nat} {r : List Int} {S : zS} {co : Int → Int} {cn n x y z b v e p t : Int}
def o_again (S : zS) (x : Int) : Int × zS := if (0 ≤ x ∧ x < 3) ∧ zX S 9 x = zX S 8 1 then (1, sY S (z_kept S.1 (zX S) x.toNat)) else (0, S)
theorem vC_env {s s' k : Nat} (hk : 6 ≤ k) : vC μ s k = vC μ s' k := by
  funext i
  match k, hk with
  | 6, _ => simp only [vC]
  | 7, _ => simp only [vC]
  | 8, _ => simp only [vC]
  | 9, _ => simp only [vC]
  | 10, _ => simp only [vC]
  | 11, _ => simp only [vC]
  | 12, _ => simp only [vC]
  | 13, _ => simp only [vC]
  | 14, _ => simp only [vC]
  | 15, _ => simp only [vC]
  | k + 16, _ => simp only [vC]
theorem C_again (hd : 2 ≤ d) (hC : cS μ S) (hI : iS n S) (h : ∀ μ', zEc μ' μ → cS μ' (o_again S x).2 → K (some (.inl (o_again S x).1)) μ') : zCall g d 156 [.inr (.inr ((0, 11), 0)), .inl x] μ K := by
  have h7 : cK μ (zX S) := hC.2.2.2.2.2.2
  have hK : iK n S.1 (zX S) := hI.2.2.2.2.2.2.2
  unfold o_again at h
  have no : ¬ ((0 ≤ x ∧ x < 3) ∧ zX S 9 x = zX S 8 1) → K (some (.inl 0)) μ := by
    intro q
    rw [if_neg q] at h
    exact h μ (zEc.refl μ) hC
  refine sX11_again ⟨fun _ => no (by omega), fun q => ⟨fun _ => no (by omega), fun q2 => ⟨by omega, ?_⟩⟩⟩
  obtain ⟨i, rfl⟩ : ∃ i : Nat, x = (i : Int) := ⟨x.toNat, by omega⟩
  have hi3 : i < 3 := by omega
  have ki := h7.2 i hi3
  rw [ki.1, h7.1]
  refine ⟨fun q3 => ⟨by omega, ?_⟩, fun q3 => no (fun hh => q3 hh.2)⟩
  rw [if_pos ⟨by omega, q3⟩] at h
  have ei : ((i : Int)).toNat = i := by omega
  rw [ei] at h ⊢
  have k8 := hK.1
  have kk := ki.2 (by omega)
  refine c_takeFrom2 (by omega) (by omega) (by omega) (by omega) hC.1.2.1 (fun M hM hv h2 => zn ?_)
  refine h M (fun j hj => hM j (by omega)) (hC.yard ⟨?_, zrl_same hC.1.2.1 (hM 12 (by omega)), by rw [hM 12 (by omega)]; exact hC.1.2.2.1, ?_⟩ (fun j hj _ => hM j (by omega)))
  · rw [hv]
    funext k y
    unfold z_kept
    by_cases q4 : k < 6
    · rw [if_pos q4, kk.2 k q4]
    · rw [if_neg q4, vC_env (s' := 20) (by omega), hC.1.1]
  · rw [h2, kk.1]
    rfl
theorem M_again (hd : 2 ≤ d) (hC : mS μ S) (hI : iS n S) (h : ∀ μ', zEd μ' μ → mS μ' (o_again S x).2 → K (some (.inl (o_again S x).1)) μ') : zCall g d 278 [.inr (.inr ((0, 12), 119)), .inl x] μ K := by
  have hC0 : mS (zU μ 119 33 0) S := hC.thr
  have hE : zEd (zU μ 119 33 0) μ := (zEd.refl μ).u (by omega)
  refine sX12_again ⟨by omega, ?_⟩
  generalize zU μ 119 33 0 = N at *
  have h7 : mK N (S.1 13 3) (zX S) := hC0.2.2.2.2.2.2
  have hK : iK n S.1 (zX S) := hI.2.2.2.2.2.2.2
  have k8 := hK.1
  unfold o_again at h
  have no : ¬ ((0 ≤ x ∧ x < 3) ∧ zX S 9 x = zX S 8 1) → K (some (.inl 0)) N := by
    intro q
    rw [if_neg q] at h
    exact h N hE hC0
  refine m_in (fun q => zb1 ⟨by omega, ?_⟩) (fun q => zb0 (no (by omega)))
  obtain ⟨i, rfl⟩ : ∃ i : Nat, x = (i : Int) := ⟨x.toNat, by omega⟩
  have hi3 : i < 3 := by omega
  have ki := h7.2 i hi3
  refine ⟨fun q2 => no (fun hh => ?_), fun q2 => ⟨fun q3 => ?_, fun q3 => no (fun hh => ?_)⟩⟩
  · have := hh.2
    rcases ki.1 with ⟨a, b, c⟩ | ⟨a, b⟩ <;> omega
  · have k9 : zX S 9 (i : Int) = zX S 8 1 := by
      have := h7.1
      rcases ki.1 with ⟨a, b, c⟩ | ⟨a, b⟩ <;> omega
    rw [if_pos ⟨by omega, k9⟩, show ((i : Int)).toNat = i from by omega] at h
    have kk := ki.2 k9
    have hW := (hK.2 i hi3).2 k9
    have kv : ∀ k, k < 6 → z_kept S.1 (zX S) i k = vK N (S.1 13 3) i k := fun k hk => by
      funext y
      unfold z_kept
      rw [if_pos hk, kk k hk]
    have hD : ∀ j : Nat, j < 12 → N 173 (12 * (i : Int) + (j : Int)) = 0 ∨ N 173 (12 * (i : Int) + (j : Int)) = 1 := by
      intro j hj
      have := (hW.1.2.2.2 (j : Int) (by omega)).1.2.2.2.2.2.2.2
      rw [kv 4 (by omega)] at this
      simp only [vK, y_cl] at this
      rw [if_pos (by omega)] at this
      exact this
    have b0 : ∀ j, ¬ j = 119 → zU (zU N 119 14 (N 174 (i : Int))) 119 15 (N 175 (i : Int)) j = N j := fun j hj => by rw [zU_off j hj, zU_off j hj]
    have b1 : ∀ a, ¬ (a = 14 ∨ a = 15) → zU (zU N 119 14 (N 174 (i : Int))) 119 15 (N 175 (i : Int)) 119 a = N 119 a := fun a ha => by rw [zU_ne (by omega), zU_ne (by omega)]
    have b14 : zU (zU N 119 14 (N 174 (i : Int))) 119 15 (N 175 (i : Int)) 119 14 = N 174 (i : Int) := by rw [zU_ne (by omega), zU_eq]
    have b15 : zU (zU N 119 14 (N 174 (i : Int))) 119 15 (N 175 (i : Int)) 119 15 = N 175 (i : Int) := zU_eq
    generalize zU (zU N 119 14 (N 174 (i : Int))) 119 15 (N 175 (i : Int)) = B at *
    have fin : ∀ M : zM, (∀ j, ¬ (j = 123 ∨ j = 124 ∨ 129 ≤ j ∧ j ≤ 131) → M j = B j) → (∀ q, 0 ≤ q ∧ q < 23 → M 123 q = N 169 (23 * (i : Int) + q) ∧ M 124 q = N 170 (23 * (i : Int) + q)) → (∀ q, 0 ≤ q ∧ q < 12 → M 130 q = N 171 (12 * (i : Int) + q) ∧ M 131 q = N 172 (12 * (i : Int) + q) ∧ M 129 q = N 173 (12 * (i : Int) + q)) → K (some (.inl 1)) M := by
      intro M hM k1 k2
      have mo : ∀ j, ¬ (j = 119 ∨ j = 123 ∨ j = 124 ∨ 129 ≤ j ∧ j ≤ 131) → M j = N j := fun j hj => by rw [hM j (by omega), b0 j (by omega)]
      have ms : ∀ a, ¬ (a = 14 ∨ a = 15) → M 119 a = N 119 a := fun a ha => by rw [hM 119 (by omega), b1 a ha]
      have c14 : z_kept S.1 (zX S) i 14 = S.1 14 := by funext y; unfold z_kept; rw [if_neg (by omega)]
      have c15 : z_kept S.1 (zX S) i 15 = S.1 15 := by funext y; unfold z_kept; rw [if_neg (by omega)]
      refine h M (fun j hj => by rw [mo j (by omega), hE j hj]) (hC0.yard ⟨?_, ?_, ?_⟩ (fun j hj _ => mo j (by omega)) (fun a ha _ => ms a (by omega)))
      · rw [c14, c15]
        funext k y
        have hv := hC0.1.1
        have m6 : M 119 6 ≤ 12 := by
          have := hI.env
          rw [ms 6 (by omega), hC0.env.2.2.2.1]
          omega
        by_cases q4 : k < 6
        · rw [kv k q4, ← hC0.env.2.2.2.1, ← ms 6 (by omega)]
          have hk : k = 0 ∨ k = 1 ∨ k = 2 ∨ k = 3 ∨ k = 4 ∨ k = 5 := by omega
          rcases hk with rfl | rfl | rfl | rfl | rfl | rfl
          · simp only [vK, vM, y_cl]
            split
            · exact (k1 y (by omega)).1
            · rfl
          · simp only [vK, vM, y_cl]
            split
            · exact (k1 y (by omega)).2
            · rfl
          · simp only [vK, vM, y_cl]
            split
            · exact (k2 y (by omega)).1
            · rfl
          · simp only [vK, vM, y_cl]
            split
            · exact (k2 y (by omega)).2.1
            · rfl
          · simp only [vK, vM, y_cl]
            split
            · exact (k2 y (by omega)).2.2
            · rfl
          · simp only [vK, vM, y_cl]
            rw [hM 119 (by omega)]
            split
            · have : y = 0 ∨ y = 1 := by omega
              rcases this with rfl | rfl
              · exact b14
              · exact b15
            · rfl
        · unfold z_kept
          rw [if_neg q4]
          have e1 : vM M (S.1 14) (S.1 15 0) k y = vM N (S.1 14) (S.1 15 0) k y := by
            match k, q4 with
            | 6, _ => simp only [vM]; rw [mo 120 (by omega)]
            | 7, _ => simp only [vM]; rw [mo 121 (by omega)]
            | 8, _ => simp only [vM]; rw [mo 122 (by omega)]
            | 9, _ => simp only [vM]; rw [mo 125 (by omega)]
            | 10, _ => simp only [vM]; rw [mo 126 (by omega)]
            | 11, _ => simp only [vM]; rw [mo 127 (by omega)]
            | 12, _ => simp only [vM]; rw [mo 128 (by omega)]
            | 13, _ => simp only [vM]; rw [ms 6 (by omega), ms 0 (by omega), ms 16 (by omega), ms 17 (by omega)]
            | 14, _ => simp only [vM]
            | 15, _ => simp only [vM]
            | k + 16, _ => simp only [vM]
            | 0, q => exact absurd (by omega) q
            | 1, q => exact absurd (by omega) q
            | 2, q => exact absurd (by omega) q
            | 3, q => exact absurd (by omega) q
            | 4, q => exact absurd (by omega) q
            | 5, q => exact absurd (by omega) q
          rw [e1, hv]
      · rw [c14, c15, mo 138 (by omega), ms 28 (by omega)]; exact hC0.1.2.1
      · rw [ms 42 (by omega)]; exact hC0.1.2.2
    have z23 : zw (23 * (i : Int)) = 23 * (i : Int) := zwi (by omega) (by omega)
    have z12 : zw (12 * (i : Int)) = 12 * (i : Int) := zwi (by omega) (by omega)
    have lp2 : ∀ (k j : Nat) (M : zM), j + k = 12 → (∀ j, ¬ (j = 123 ∨ j = 124 ∨ 129 ≤ j ∧ j ≤ 131) → M j = B j) → (∀ q, 0 ≤ q ∧ q < 23 → M 123 q = N 169 (23 * (i : Int) + q) ∧ M 124 q = N 170 (23 * (i : Int) + q)) → (∀ q, 0 ≤ q ∧ q < (j : Int) → M 130 q = N 171 (12 * (i : Int) + q) ∧ M 131 q = N 172 (12 * (i : Int) + q) ∧ M 129 q = N 173 (12 * (i : Int) + q)) → zT g d mX12_again K 108 [some (.inr (.inr ((0, 12), 119))), some (.inl (i : Int)), some (.inl (j : Int))] [] M := by
      clear z23
      intro k
      induction k with
      | zero =>
        intro j M hj hM k1 k2
        obtain rfl : j = 12 := by omega
        exact sX12_again_108 ⟨fun _ => fin M hM k1 k2, fun q => by clear z12; omega⟩
      | succ k ih =>
        intro j M hj hM k1 k2
        refine sX12_again_108 ⟨fun q => by clear z12; omega, fun q => ?_⟩
        rw [z12]
        clear z12
        rw [zwi (x := 12 * (i : Int) + (j : Int)) (by omega) (by omega), zw_suc (by omega), hM 171 (by omega), hM 172 (by omega), hM 173 (by omega), b0 171 (by omega), b0 172 (by omega), b0 173 (by omega)]
        refine ⟨by omega, by omega, hD j (by omega), ih (j + 1) _ (by omega) (fun q hq => by rw [zU_off q (by omega), zU_off q (by omega), zU_off q (by omega)]; exact hM q hq) (fun q hq => ?_) (fun q hq => ?_)⟩
        · rw [zU_off 123 (by omega), zU_off 123 (by omega), zU_off 123 (by omega), zU_off 124 (by omega), zU_off 124 (by omega), zU_off 124 (by omega)]; exact k1 q hq
        · by_cases q5 : q = (j : Int)
          · subst q5
            simp [zU]
          · have := k2 q (by omega)
            simp [zU, q5]
            exact this
    have lp1 : ∀ (k j : Nat) (M : zM), j + k = 23 → (∀ q, ¬ (q = 123 ∨ q = 124) → M q = B q) → (∀ q, 0 ≤ q ∧ q < (j : Int) → M 123 q = N 169 (23 * (i : Int) + q) ∧ M 124 q = N 170 (23 * (i : Int) + q)) → zT g d mX12_again K 60 [some (.inr (.inr ((0, 12), 119))), some (.inl (i : Int)), some (.inl (j : Int))] [] M := by
      clear z12
      intro k
      induction k with
      | zero =>
        intro j M hj hM k1
        obtain rfl : j = 23 := by omega
        exact sX12_again_60 ⟨fun _ => lp2 12 0 M (by omega) (fun q hq => hM q (by omega)) k1 (fun q hq => by clear z23; omega), fun q => by clear z23; omega⟩
      | succ k ih =>
        intro j M hj hM k1
        refine sX12_again_60 ⟨fun q => by clear z23; omega, fun q => ?_⟩
        rw [z23]
        clear z23
        rw [zwi (x := 23 * (i : Int) + (j : Int)) (by omega) (by omega), zw_suc (by omega), hM 169 (by omega), hM 170 (by omega), b0 169 (by omega), b0 170 (by omega)]
        refine ⟨by omega, by omega, ih (j + 1) _ (by omega) (fun q hq => by rw [zU_off q (by omega), zU_off q (by omega)]; exact hM q hq) (fun q hq => ?_)⟩
        by_cases q5 : q = (j : Int)
        · subst q5
          simp [zU]
        · have := k1 q (by omega)
          simp [zU, q5]
          exact this
    clear z12 z23
    exact lp1 23 0 B (by omega) (fun _ _ => rfl) (fun q hq => by omega)
  · have := h7.1
    have := hh.2
    rcases ki.1 with ⟨a, b, c⟩ | ⟨a, b⟩ <;> omega
def o_count (S : zS) (x : Int) : Int × zS := (if x = 0 then S.1 13 0 else if x = 1 then S.1 13 3 else if x = 2 then S.1 5 1 else if x = 3 then S.1 5 0 else if x = 4 then zX S 8 0 else if x = 5 then ((zc S).length : Int) else if x = 6 then ((zl S).length : Int) else if x = 7 then (f_ins S.1 : Int) else if x = 8 then (f_lits S.1 : Int) else if x = 9 then z_dd (S.1 4) else if x = 10 then (S.2.2.1.length : Int) else if x = 11 then (S.2.1.length : Int) else -1, S)
theorem C_count (hd : 2 ≤ d) (hC : cS μ S) (hI : iS n S) (h : ∀ μ', zEc μ' μ → cS μ' (o_count S x).2 → K (some (.inl (o_count S x).1)) μ') : zCall g d 157 [.inr (.inr ((0, 11), 0)), .inl x] μ K := by
  have ev := hC.env
  have h := h μ (zEc.refl μ) hC
  unfold o_count at h
  obtain ⟨h1, h2, h3, h4, h5, h6, h7⟩ := hC
  refine sX11_count ⟨fun q => ?_, fun q => ?_, fun q => ?_, fun q => ?_, fun q => ?_, fun q => ?_, fun q => ?_, fun q => ?_, fun q => ⟨by omega, c_inStalls (zi ?_)⟩, fun q => ⟨by omega, c_lit (zi ?_)⟩, fun q => ?_, fun q => ?_, fun q => ?_⟩
  · simp only [if_neg (show ¬ x = 0 by omega), if_neg (show ¬ x = 1 by omega), if_neg (show ¬ x = 2 by omega), if_neg (show ¬ x = 3 by omega), if_neg (show ¬ x = 4 by omega), if_neg (show ¬ x = 5 by omega), if_neg (show ¬ x = 6 by omega), if_neg (show ¬ x = 7 by omega), if_neg (show ¬ x = 8 by omega), if_neg (show ¬ x = 9 by omega), if_neg (show ¬ x = 10 by omega), if_neg (show ¬ x = 11 by omega)] at h
    exact h
  all_goals subst q
  · rw [ev.1]; exact h
  · rw [ev.2.2.2.1]; exact h
  · rw [ev.2.2.2.2.2]; exact h
  · rw [ev.2.2.2.2.1]; exact h
  · rw [h6.1]; exact h
  · rw [h4.1.1]; exact h
  · rw [h4.2.1]; exact h
  · rw [h1.1]; exact h
  · rw [h1.1]; exact h
  · rw [h1.2.2.2]; exact h
  · rw [h3.1]; exact h
  · rw [h2.1]; exact h
theorem M_count (hd : 2 ≤ d) (hC : mS μ S) (hI : iS n S) (h : ∀ μ', zEd μ' μ → mS μ' (o_count S x).2 → K (some (.inl (o_count S x).1)) μ') : zCall g d 279 [.inr (.inr ((0, 12), 119)), .inl x] μ K := by
  have hC0 : mS (zU μ 119 33 0) S := hC.thr
  have hE : zEd (zU μ 119 33 0) μ := (zEd.refl μ).u (by omega)
  have w := hI.env
  have ev := hC.env
  have ev0 := hC0.env
  have h := h _ hE hC0
  unfold o_count at h
  obtain ⟨h1, h2, h3, h4, h5, h6, h7⟩ := id hC
  have W0 := hC0.W hI
  have hv0 := hC0.1.1
  have en := fun e he => hC0.en (e := e) he
  refine sX12_count ⟨fun q => ?_, fun q => ?_, fun q => ?_, fun q => ?_, fun q => ?_, fun q => ?_, fun q => ?_, fun q => ?_, fun q => ⟨by omega, m_inStalls (co := S.1 14) (cn := S.1 15 0) W0 (zi ?_)⟩, fun q => ?_, fun q => ?_, fun q => ?_, fun q => ?_⟩
  · simp only [if_neg (show ¬ x = 0 by omega), if_neg (show ¬ x = 1 by omega), if_neg (show ¬ x = 2 by omega), if_neg (show ¬ x = 3 by omega), if_neg (show ¬ x = 4 by omega), if_neg (show ¬ x = 5 by omega), if_neg (show ¬ x = 6 by omega), if_neg (show ¬ x = 7 by omega), if_neg (show ¬ x = 8 by omega), if_neg (show ¬ x = 9 by omega), if_neg (show ¬ x = 10 by omega), if_neg (show ¬ x = 11 by omega)] at h
    exact h
  all_goals subst q
  · rw [ev.1]; exact h
  · rw [ev.2.2.2.1]; exact h
  · rw [ev.2.2.2.2.2]; exact h
  · rw [ev.2.2.2.2.1]; exact h
  · rw [h6.1]; exact h
  · rw [h4.1.1]; exact h
  · rw [h4.2.1]; exact h
  · rw [hv0]; exact h
  · generalize zU μ 119 33 0 = N at *
    have h : K (some (.inl (f_lits S.1 : Int))) N := h
    have lp : ∀ (k j : Nat), (j : Int) + k = N 119 6 → zT g d mX12_count K 114 [some (.inr (.inr ((0, 12), 119))), none, some (.inl (f_bits (fun e => decide (¬ S.1 3 (e : Int) = -1)) j : Int)), some (.inl (j : Int))] [] N := by
      intro k
      induction k with
      | zero =>
        intro j hj
        refine sX12_count_114 ⟨fun _ => ?_, fun q => by omega⟩
        have := f_bits_12 (p := fun e => decide (¬ S.1 3 (e : Int) = -1)) (m := N 119 6) (by omega) (fun a h1 h2 => by
          have := (hI.W.2.2.2 (a : Int) (by omega)).2.2.2 (by omega)
          simp [this.2.1])
        rw [show j = (N 119 6).toNat from by omega, this]
        exact h
      | succ k ih =>
        intro j hj
        have e2 := (en (j : Int) (by omega)).2.1
        have lt := f_bits_lt (fun e => decide (¬ S.1 3 (e : Int) = -1)) j
        have lt2 : 2 ^ j < 2147483648 := Nat.pow_lt_pow_right (a := 2) (n := 31) (by omega) (by omega)
        refine sX12_count_114 ⟨fun q => by omega, fun q => ⟨by omega, fun q2 => ?_, fun q2 => ?_⟩⟩
        · rw [e2] at q2
          rw [zw_suc (by omega), z_or_bit (p := fun e => decide (¬ S.1 3 (e : Int) = -1)) (n := j) (by omega) (by simp [q2])]
          exact ih (j + 1) (by omega)
        · rw [e2] at q2
          have z0 := zor_nat (a := f_bits (fun e => decide (¬ S.1 3 (e : Int) = -1)) j) (b := 0) (by omega) (by omega)
          rw [Nat.or_zero] at z0
          rw [zw_suc (by omega), show (0 : Int) = ((0 : Nat) : Int) from rfl, z0, z_no_bit (p := fun e => decide (¬ S.1 3 (e : Int) = -1)) (n := j) (by simp [q2])]
          exact ih (j + 1) (by omega)
    exact lp (N 119 6).toNat 0 (by omega)
  · generalize zU μ 119 33 0 = N at *
    have h : K (some (.inl (z_dd (S.1 4)))) N := h
    have lp : ∀ (k j : Nat), (j : Int) + k = N 119 6 → zT g d mX12_count K 152 [some (.inr (.inr ((0, 12), 119))), none, some (.inl (f_bits (fun e => decide (S.1 4 (e : Int) = 1)) j : Int)), some (.inl (j : Int))] [] N := by
      intro k
      induction k with
      | zero =>
        intro j hj
        refine sX12_count_152 ⟨fun _ => ?_, fun q => by omega⟩
        have := f_bits_12 (p := fun e => decide (S.1 4 (e : Int) = 1)) (m := N 119 6) (by omega) (fun a h1 h2 => by
          have := (hI.W.2.2.2 (a : Int) (by omega)).2.2.2 (by omega)
          simp [this.2.2])
        rw [show j = (N 119 6).toNat from by omega, this]
        exact h
      | succ k ih =>
        intro j hj
        have e2 := (en (j : Int) (by omega)).2.2.2.2.2
        have d2 := (hI.W.2.2.2 (j : Int) (by omega)).1.2.2.2.2.2.2.2
        have lt := f_bits_lt (fun e => decide (S.1 4 (e : Int) = 1)) j
        have lt2 : 2 ^ j < 2147483648 := Nat.pow_lt_pow_right (a := 2) (n := 31) (by omega) (by omega)
        refine sX12_count_152 ⟨fun q => by omega, fun q => ⟨by omega, fun q2 => ?_, fun q2 => ?_⟩⟩
        · rw [e2] at q2
          have z0 := zor_nat (a := f_bits (fun e => decide (S.1 4 (e : Int) = 1)) j) (b := 0) (by omega) (by omega)
          rw [Nat.or_zero] at z0
          rw [zw_suc (by omega), show (0 : Int) = ((0 : Nat) : Int) from rfl, z0, z_no_bit (p := fun e => decide (S.1 4 (e : Int) = 1)) (n := j) (by simp [q2])]
          exact ih (j + 1) (by omega)
        · rw [e2] at q2
          rw [zw_suc (by omega), z_or_bit (p := fun e => decide (S.1 4 (e : Int) = 1)) (n := j) (by omega) (by simp; omega)]
          exact ih (j + 1) (by omega)
    exact lp (N 119 6).toNat 0 (by omega)
  · rw [h3.1]; exact h
  · rw [h2.1]; exact h
end
