-- needs 50 51 52 53 54 55 56 57 58 59 60
/-! operations: keep, again, count -/
section
variable {g : zG} {d : Nat} {K : Option zV → zM → Prop} {μ : zM} {s o : Nat} {e a b x y : Int}
/-- one Standing becomes as another, the dead too -/
theorem c_takeFrom2 (hd : 1 ≤ d) (hs : 20 ≤ s) (ho : 20 ≤ o) (hso : s + 5 ≤ o ∨ o + 5 ≤ s) (hr : zrl μ) (h : ∀ μ', (∀ j, ¬ (s ≤ j ∧ j ≤ s + 4) → μ' j = μ j) → vC μ' s = vC μ o → μ' s 2 = μ o 2 → K none μ') : zCall g d 57 [.inr (.inr ((0, 7), s)), .inr (.inr ((0, 7), o))] μ K := by
  refine sX7_takeFrom ⟨hd, by omega, by omega, by omega, by omega, ?_⟩
  have n1 : ∀ (m : zM) (k v : Int) (w : Int), zU m s k v o w = m o w := fun m k v w => zU_ne (by omega)
  simp only [n1]
  refine h _ ?_ ?_ ?_
  · intro j hj
    rw [zcp_off _ (by omega), zcp_off _ (by omega), zcp_off _ (by omega), zcp_off _ (by omega), zU_off _ (by omega), zU_off _ (by omega), zU_off _ (by omega)]
  · funext k i
    have c1 : ∀ i, 0 ≤ i ∧ i < 23 → zcp (zcp (zcp (zcp (zU (zU (zU μ s 0 (μ o 0)) s 1 (μ o 1)) s 2 (μ o 2)) (o + 1) 0 (s + 1) 0 23) (o + 2) 0 (s + 2) 0 23) (o + 3) 0 (s + 3) 0 12) (o + 4) 0 (s + 4) 0 12 (s + 1) i = μ (o + 1) i := by
      intro i hi
      rw [zcp_ne (by omega), zcp_ne (by omega), zcp_ne (by omega), zcp_in (by omega), zU_off _ (by omega), zU_off _ (by omega), zU_off _ (by omega), show i - 0 + 0 = i from by omega]
    have c2 : ∀ i, 0 ≤ i ∧ i < 23 → zcp (zcp (zcp (zcp (zU (zU (zU μ s 0 (μ o 0)) s 1 (μ o 1)) s 2 (μ o 2)) (o + 1) 0 (s + 1) 0 23) (o + 2) 0 (s + 2) 0 23) (o + 3) 0 (s + 3) 0 12) (o + 4) 0 (s + 4) 0 12 (s + 2) i = μ (o + 2) i := by
      intro i hi
      rw [zcp_ne (by omega), zcp_ne (by omega), zcp_in (by omega), zcp_ne (by omega), zU_off _ (by omega), zU_off _ (by omega), zU_off _ (by omega), show i - 0 + 0 = i from by omega]
    have c3 : ∀ i, 0 ≤ i ∧ i < 12 → zcp (zcp (zcp (zcp (zU (zU (zU μ s 0 (μ o 0)) s 1 (μ o 1)) s 2 (μ o 2)) (o + 1) 0 (s + 1) 0 23) (o + 2) 0 (s + 2) 0 23) (o + 3) 0 (s + 3) 0 12) (o + 4) 0 (s + 4) 0 12 (s + 3) i = μ (o + 3) i := by
      intro i hi
      rw [zcp_ne (by omega), zcp_in (by omega), zcp_ne (by omega), zcp_ne (by omega), zU_off _ (by omega), zU_off _ (by omega), zU_off _ (by omega), show i - 0 + 0 = i from by omega]
    have c4 : ∀ i, 0 ≤ i ∧ i < 12 → zcp (zcp (zcp (zcp (zU (zU (zU μ s 0 (μ o 0)) s 1 (μ o 1)) s 2 (μ o 2)) (o + 1) 0 (s + 1) 0 23) (o + 2) 0 (s + 2) 0 23) (o + 3) 0 (s + 3) 0 12) (o + 4) 0 (s + 4) 0 12 (s + 4) i = μ (o + 4) i := by
      intro i hi
      rw [zcp_in (by omega), zcp_ne (by omega), zcp_ne (by omega), zcp_ne (by omega), zU_off _ (by omega), zU_off _ (by omega), zU_off _ (by omega), show i - 0 + 0 = i from by omega]
    have c5 : ∀ i, i = 0 ∨ i = 1 ∨ i = 2 → zcp (zcp (zcp (zcp (zU (zU (zU μ s 0 (μ o 0)) s 1 (μ o 1)) s 2 (μ o 2)) (o + 1) 0 (s + 1) 0 23) (o + 2) 0 (s + 2) 0 23) (o + 3) 0 (s + 3) 0 12) (o + 4) 0 (s + 4) 0 12 s i = μ o i := by
      rintro i (rfl | rfl | rfl)
      · rw [zcp_ne (by omega), zcp_ne (by omega), zcp_ne (by omega), zcp_ne (by omega), zU_ne (by omega), zU_ne (by omega), zU_eq]
      · rw [zcp_ne (by omega), zcp_ne (by omega), zcp_ne (by omega), zcp_ne (by omega), zU_ne (by omega), zU_eq]
      · rw [zcp_ne (by omega), zcp_ne (by omega), zcp_ne (by omega), zcp_ne (by omega), zU_eq]
    have c6 : ∀ j, 1 ≤ j → j ≤ 15 → zcp (zcp (zcp (zcp (zU (zU (zU μ s 0 (μ o 0)) s 1 (μ o 1)) s 2 (μ o 2)) (o + 1) 0 (s + 1) 0 23) (o + 2) 0 (s + 2) 0 23) (o + 3) 0 (s + 3) 0 12) (o + 4) 0 (s + 4) 0 12 j = μ j := by
      intro j _ _
      rw [zcp_off _ (by omega), zcp_off _ (by omega), zcp_off _ (by omega), zcp_off _ (by omega), zU_off _ (by omega), zU_off _ (by omega), zU_off _ (by omega)]
    generalize zcp (zcp (zcp (zcp (zU (zU (zU μ s 0 (μ o 0)) s 1 (μ o 1)) s 2 (μ o 2)) (o + 1) 0 (s + 1) 0 23) (o + 2) 0 (s + 2) 0 23) (o + 3) 0 (s + 3) 0 12) (o + 4) 0 (s + 4) 0 12 = m at *
    by_cases hk : k ≤ 5
    · have : k = 0 ∨ k = 1 ∨ k = 2 ∨ k = 3 ∨ k = 4 ∨ k = 5 := by omega
      rcases this with rfl | rfl | rfl | rfl | rfl | rfl
      · simp only [vC, y_cl]; split
        · rename_i q; exact c1 i q
        · rfl
      · simp only [vC, y_cl]; split
        · rename_i q; exact c2 i q
        · rfl
      · simp only [vC, y_cl]; split
        · rename_i q; exact c3 i q
        · rfl
      · simp only [vC, y_cl]; split
        · rename_i q; exact c4 i q
        · rfl
      · simp only [vC, c5 2 (Or.inr (Or.inr rfl))]
      · simp only [vC, y_cl]; split
        · rename_i q; exact c5 i (by omega)
        · rfl
    · have e1 : vC m s k = vC μ s k := vC_k hr c6 ⟨by omega, by omega, by omega, by omega, by omega, by omega⟩
      have e2 : vC μ s k = vC μ o k := by
        match k, hk with
        | 0, hk => omega
        | 1, hk => omega
        | 2, hk => omega
        | 3, hk => omega
        | 4, hk => omega
        | 5, hk => omega
        | 6, _ => funext i; simp only [vC]
        | 7, _ => funext i; simp only [vC]
        | 8, _ => funext i; simp only [vC]
        | 9, _ => funext i; simp only [vC]
        | 10, _ => funext i; simp only [vC]
        | 11, _ => funext i; simp only [vC]
        | 12, _ => funext i; simp only [vC]
        | 13, _ => funext i; simp only [vC]
        | 14, _ => funext i; simp only [vC]
        | 15, _ => funext i; simp only [vC]
        | n + 16, _ => funext i; simp only [vC]
      rw [e1, e2]
  · rw [zcp_ne (by omega), zcp_ne (by omega), zcp_ne (by omega), zcp_ne (by omega), zU_eq]
end
/-- a row's places from b on hold what h says, the others are as they were -/
def zblk (f f0 h : Int → Int) (b m : Int) : Prop := (∀ q, 0 ≤ q ∧ q < m → f (b + q) = h q) ∧ ∀ x, ¬ (b ≤ x ∧ x < b + m) → f x = f0 x
theorem zblk_0 (f h : Int → Int) (b : Int) : zblk f f h b 0 := ⟨fun q hq => by omega, fun _ _ => rfl⟩
theorem zblk_s {μ : zM} {j : Nat} {f0 h : Int → Int} {b m v : Int} (hm : 0 ≤ m) (hz : zblk (μ j) f0 h b m) (hv : v = h m) : zblk (zU μ j (b + m) v j) f0 h b (m + 1) := by
  refine ⟨fun q hq => ?_, fun x hx => ?_⟩
  · by_cases q2 : q = m
    · subst q2; rw [zU_eq]; exact hv
    · rw [zU_ne (by omega)]; exact hz.1 q (by omega)
  · rw [zU_ne (by omega)]; exact hz.2 x (by omega)
def x_keep (Y X : zM) (i : Nat) : zM := fun k x => if k = 9 ∧ x = (i : Int) then X 8 1 else if 10 + 6 * i ≤ k ∧ k < 10 + 6 * i + 6 then Y (k - (10 + 6 * i)) x else X k x
section
variable {g : zG} {d : Nat} {K : Option zV → zM → Prop} {μ μ' Y X : zM} {s m i : Nat} {r : List Int} {S : zS} {co : Int → Int} {cn n x y z b v e p t : Int}
theorem x_keep_low {k : Nat} (h : k ≤ 8) : x_keep Y X i k = X k := by
  funext x
  unfold x_keep
  rw [if_neg (by omega), if_neg (by omega)]
theorem x_keep_9 {q : Int} (h : ¬ q = (i : Int)) : x_keep Y X i 9 q = X 9 q := by
  unfold x_keep
  rw [if_neg (by omega), if_neg (by omega)]
theorem x_keep_9i : x_keep Y X i 9 (i : Int) = X 8 1 := by
  unfold x_keep
  rw [if_pos ⟨rfl, rfl⟩]
theorem x_keep_i {k : Nat} (h : k < 6) : x_keep Y X i (10 + 6 * i + k) = Y k := by
  funext x
  unfold x_keep
  rw [if_neg (by omega), if_pos (by omega), show 10 + 6 * i + k - (10 + 6 * i) = k from by omega]
theorem x_keep_o {j k : Nat} (h : k < 6) (hj : ¬ j = i) : x_keep Y X i (10 + 6 * j + k) = X (10 + 6 * j + k) := by
  funext x
  unfold x_keep
  rw [if_neg (by omega), if_neg (by omega)]
def o_keep (S : zS) (x : Int) : Int × zS := if 0 ≤ x ∧ x < 3 then (1, sX S (x_keep S.1 (zX S) x.toNat)) else (0, S)
theorem C_keep (hd : 2 ≤ d) (hC : cS μ S) (hI : iS n S) (h : ∀ μ', zEc μ' μ → cS μ' (o_keep S x).2 → K (some (.inl (o_keep S x).1)) μ') : zCall g d 155 [.inr (.inr ((0, 11), 0)), .inl x] μ K := by
  unfold o_keep at h
  have no : ¬ (0 ≤ x ∧ x < 3) → K (some (.inl 0)) μ := by
    intro q
    rw [if_neg q] at h
    exact h μ (zEc.refl μ) hC
  refine sX11_keep ⟨fun _ => no (by omega), fun q => ⟨fun q2 => ⟨by omega, by omega, ?_⟩, fun _ => no (by omega)⟩⟩
  rw [if_pos (by omega)] at h
  obtain ⟨i, rfl⟩ : ∃ i : Nat, x = (i : Int) := ⟨x.toNat, by omega⟩
  have ei : ((i : Int)).toNat = i := by omega
  rw [ei] at h ⊢
  refine c_takeFrom2 (by omega) (by omega) (by omega) (by omega) hC.1.2.1 (fun M hM hv h2 => zn ?_)
  obtain ⟨h1, h2', h3, h4, h5, h6, h7⟩ := hC
  have h7 : cK μ (zX S) := h7
  have hi3 : i < 3 := by omega
  have hK : iK n S.1 (zX S) := hI.2.2.2.2.2.2.2
  have mo : ∀ j, ¬ (j = 103 ∨ 104 + 5 * i ≤ j ∧ j ≤ 104 + 5 * i + 4) → ∀ v, zU M 103 (i : Int) v j = μ j := fun j hj v => by rw [zU_off j (by omega), hM j (by omega)]
  refine h _ (fun j hj => mo j (by omega) _) ⟨h1.same (fun j hj => mo j (by omega) _), h2'.same (by rw [mo 12 (by omega)]) (mo 13 (by omega) _), h3.same (by rw [mo 18 (by omega)]) (mo 19 (by omega) _), h4.same (by rw [mo 62 (by omega)]) (by rw [mo 62 (by omega)]) (mo 63 (by omega) _) (mo 64 (by omega) _), (h5.same (mo 71 (by omega) _) (mo 72 (by omega) _) (mo 10 (by omega) _) (mo 11 (by omega) _)).xx (fun k hk => x_keep_low (by omega)), (h6.same (by rw [mo 78 (by omega)]) (fun j _ _ => mo j (by omega) _)).xx (fun k hk => x_keep_low (by omega)), ?_, fun a ha => ?_⟩
  · show _ = x_keep S.1 (zX S) i 8 1
    rw [mo 0 (by omega), x_keep_low (by omega)]; exact h7.1
  · show _ = x_keep S.1 (zX S) i 9 (a : Int) ∧ (¬ x_keep S.1 (zX S) i 9 (a : Int) = -1 → _ = z_dd (x_keep S.1 (zX S) i (10 + 6 * a + 4)) ∧ ∀ k : Nat, k < 6 → _ = x_keep S.1 (zX S) i (10 + 6 * a + k))
    by_cases q3 : a = i
    · subst q3
      rw [x_keep_9i, zU_eq, hM 0 (by omega), x_keep_i (by omega)]
      refine ⟨h7.1, fun _ => ⟨?_, fun k hk => ?_⟩⟩
      · rw [zU_off _ (by omega), h2]; exact h1.2.2.2
      · rw [x_keep_i hk, vC_low (μ := M) hk (fun j _ _ => zU_off j (by omega)), hv, h1.1]
    · rw [x_keep_9 (by omega), x_keep_o (by omega) q3, zU_ne (by omega), hM 103 (by omega)]
      have := h7.2 a ha
      refine ⟨this.1, fun q4 => ⟨?_, fun k hk => ?_⟩⟩
      · rw [mo _ (by omega)]; exact (this.2 q4).1
      · rw [x_keep_o hk q3, vC_low (μ := μ) hk (fun j _ _ => mo j (by omega) _)]; exact (this.2 q4).2 k hk
theorem M_keep (hd : 2 ≤ d) (hC : mS μ S) (hI : iS n S) (h : ∀ μ', zEd μ' μ → mS μ' (o_keep S x).2 → K (some (.inl (o_keep S x).1)) μ') : zCall g d 277 [.inr (.inr ((0, 12), 119)), .inl x] μ K := by
  have hC0 : mS (zU μ 119 33 0) S := hC.thr
  have hE : zEd (zU μ 119 33 0) μ := (zEd.refl μ).u (by omega)
  refine sX12_keep ⟨by omega, ?_⟩
  generalize zU μ 119 33 0 = N at *
  have w := hI.env
  have ev := hC0.env
  unfold o_keep at h
  refine m_in (fun q => zb1 ⟨by omega, ?_⟩) (fun q => zb0 ?_)
  · rw [if_pos (by omega)] at h
    obtain ⟨i, rfl⟩ : ∃ i : Nat, x = (i : Int) := ⟨x.toNat, by omega⟩
    rw [show ((i : Int)).toNat = i from by omega] at h
    have hi3 : i < 3 := by omega
    have hK : iK n S.1 (zX S) := hI.2.2.2.2.2.2.2
    have b0 : ∀ j, ¬ (j = 167 ∨ j = 168 ∨ j = 174 ∨ j = 175) → zU (zU (zU (zU N 167 (i : Int) 1) 168 (i : Int) (N 119 74)) 174 (i : Int) (N 119 14)) 175 (i : Int) (N 119 15) j = N j := fun j hj => by rw [zU_off j (by omega), zU_off j (by omega), zU_off j (by omega), zU_off j (by omega)]
    have b1 : ∀ a, zU (zU (zU (zU N 167 (i : Int) 1) 168 (i : Int) (N 119 74)) 174 (i : Int) (N 119 14)) 175 (i : Int) (N 119 15) 167 a = (if a = (i : Int) then 1 else N 167 a) ∧ zU (zU (zU (zU N 167 (i : Int) 1) 168 (i : Int) (N 119 74)) 174 (i : Int) (N 119 14)) 175 (i : Int) (N 119 15) 168 a = (if a = (i : Int) then N 119 74 else N 168 a) ∧ zU (zU (zU (zU N 167 (i : Int) 1) 168 (i : Int) (N 119 74)) 174 (i : Int) (N 119 14)) 175 (i : Int) (N 119 15) 174 a = (if a = (i : Int) then N 119 14 else N 174 a) ∧ zU (zU (zU (zU N 167 (i : Int) 1) 168 (i : Int) (N 119 74)) 174 (i : Int) (N 119 14)) 175 (i : Int) (N 119 15) 175 a = (if a = (i : Int) then N 119 15 else N 175 a) := by
      intro a
      by_cases q5 : a = (i : Int)
      · subst q5; simp [zU]
      · simp [zU, q5]
    generalize zU (zU (zU (zU N 167 (i : Int) 1) 168 (i : Int) (N 119 74)) 174 (i : Int) (N 119 14)) 175 (i : Int) (N 119 15) = B at *
    have fin : ∀ M : zM, (∀ j, ¬ (169 ≤ j ∧ j ≤ 173) → M j = B j) → zblk (M 169) (N 169) (N 123) (23 * i) 23 → zblk (M 170) (N 170) (N 124) (23 * i) 23 → zblk (M 171) (N 171) (N 130) (12 * i) 12 → zblk (M 172) (N 172) (N 131) (12 * i) 12 → zblk (M 173) (N 173) (N 129) (12 * i) 12 → K (some (.inl 1)) M := by
      intro M hM k1 k2 k3 k4 k5
      obtain ⟨h1, h2, h3, h4, h5, h6, h7⟩ := hC0
      have h7 : mK N (S.1 13 3) (zX S) := h7
      have mo : ∀ j, ¬ (167 ≤ j ∧ j ≤ 175) → M j = N j := fun j hj => by rw [hM j (by omega), b0 j (by omega)]
      refine h M (fun j hj => by rw [mo j (by omega), hE j hj]) ⟨h1.same (fun j _ _ => mo j (by omega)) (fun i _ => by rw [mo 119 (by omega)]) (mo 138 (by omega)), h2.same (by rw [mo 119 (by omega)]) (mo 139 (by omega)), h3.same (by rw [mo 119 (by omega)]) (mo 140 (by omega)), h4.same (by rw [mo 119 (by omega)]) (by rw [mo 119 (by omega)]) (mo 136 (by omega)) (mo 137 (by omega)), (h5.same (fun j _ _ => mo j (by omega))).xx (fun k hk => x_keep_low (by omega)), (h6.same (by rw [mo 119 (by omega)]) (fun j _ _ => mo j (by omega))).xx (fun k hk => x_keep_low (by omega)), ?_, fun a ha => ?_⟩
      · show _ = x_keep S.1 (zX S) i 8 1
        rw [mo 119 (by omega), x_keep_low (by omega)]; exact h7.1
      · show ((_ ∧ ¬ x_keep S.1 (zX S) i 9 (a : Int) = -1 ∧ _ = x_keep S.1 (zX S) i 9 (a : Int)) ∨ (_ ∧ x_keep S.1 (zX S) i 9 (a : Int) = -1)) ∧ (x_keep S.1 (zX S) i 9 (a : Int) = x_keep S.1 (zX S) i 8 1 → ∀ k : Nat, k < 6 → vK M (S.1 13 3) a k = x_keep S.1 (zX S) i (10 + 6 * a + k))
        rw [hM 167 (by omega), hM 168 (by omega), (b1 _).1, (b1 _).2.1]
        by_cases q3 : a = i
        · subst q3
          rw [x_keep_9i, if_pos rfl, if_pos rfl, h7.1]
          have k81 := hK.1
          refine ⟨Or.inl ⟨rfl, by omega, rfl⟩, fun _ k hk => ?_⟩
          rw [x_keep_i hk]
          have hv1 : vM N (S.1 14) (S.1 15 0) k = S.1 k := by rw [h1.1]
          rw [← hv1, ← ev.2.2.2.1]
          have b2 := b1 (a : Int)
          have : k = 0 ∨ k = 1 ∨ k = 2 ∨ k = 3 ∨ k = 4 ∨ k = 5 := by omega
          funext y
          rcases this with rfl | rfl | rfl | rfl | rfl | rfl
          · simp only [vK, vM, y_cl]
            split
            · exact k1.1 y (by omega)
            · rfl
          · simp only [vK, vM, y_cl]
            split
            · exact k2.1 y (by omega)
            · rfl
          · simp only [vK, vM, y_cl]
            split
            · exact k3.1 y (by omega)
            · rfl
          · simp only [vK, vM, y_cl]
            split
            · exact k4.1 y (by omega)
            · rfl
          · simp only [vK, vM, y_cl]
            split
            · exact k5.1 y (by omega)
            · rfl
          · simp only [vK, vM, y_cl]
            rw [hM 174 (by omega), hM 175 (by omega), b2.2.2.1, b2.2.2.2, if_pos rfl, if_pos rfl]
            split
            · have : y = 0 ∨ y = 1 := by omega
              rcases this with rfl | rfl <;> rfl
            · rfl
        · rw [x_keep_9 (by omega), if_neg (by omega), if_neg (by omega)]
          have := h7.2 a ha
          refine ⟨this.1, fun q4 k hk => ?_⟩
          rw [x_keep_low (by omega)] at q4
          rw [x_keep_o hk q3, ← this.2 q4 k hk]
          have b2 := b1 (a : Int)
          have hk : k = 0 ∨ k = 1 ∨ k = 2 ∨ k = 3 ∨ k = 4 ∨ k = 5 := by omega
          funext y
          rcases hk with rfl | rfl | rfl | rfl | rfl | rfl
          · simp only [vK, y_cl]
            split
            · exact k1.2 _ (by omega)
            · rfl
          · simp only [vK, y_cl]
            split
            · exact k2.2 _ (by omega)
            · rfl
          · simp only [vK, y_cl]
            split
            · exact k3.2 _ (by omega)
            · rfl
          · simp only [vK, y_cl]
            split
            · exact k4.2 _ (by omega)
            · rfl
          · simp only [vK, y_cl]
            split
            · exact k5.2 _ (by omega)
            · rfl
          · simp only [vK, y_cl]
            simp only [show ¬ ((a : Int)) = (i : Int) from by omega, if_false] at b2
            rw [hM 174 (by omega), hM 175 (by omega), b2.2.2.1, b2.2.2.2]
    have z23 : zw (23 * (i : Int)) = 23 * (i : Int) := zwi (by omega) (by omega)
    have z12 : zw (12 * (i : Int)) = 12 * (i : Int) := zwi (by omega) (by omega)
    have lp2 : ∀ (k j : Nat) (M : zM), j + k = 12 → (∀ q, ¬ (169 ≤ q ∧ q ≤ 173) → M q = B q) → zblk (M 169) (N 169) (N 123) (23 * i) 23 → zblk (M 170) (N 170) (N 124) (23 * i) 23 → zblk (M 171) (N 171) (N 130) (12 * i) j → zblk (M 172) (N 172) (N 131) (12 * i) j → zblk (M 173) (N 173) (N 129) (12 * i) j → zT g d mX12_keep K 103 [some (.inr (.inr ((0, 12), 119))), some (.inl (i : Int)), some (.inl (j : Int))] [] M := by
      clear z23
      intro k
      induction k with
      | zero =>
        intro j M hj hM k1 k2 k3 k4 k5
        obtain rfl : j = 12 := by omega
        exact sX12_keep_103 ⟨fun _ => fin M hM k1 k2 k3 k4 k5, fun q => by clear z12; omega⟩
      | succ k ih =>
        intro j M hj hM k1 k2 k3 k4 k5
        refine sX12_keep_103 ⟨fun q => by clear z12; omega, fun q => ?_⟩
        rw [z12]
        clear z12
        rw [zwi (x := 12 * (i : Int) + (j : Int)) (by omega) (by omega), zw_suc (by omega), hM 129 (by omega), hM 130 (by omega), hM 131 (by omega), b0 129 (by omega), b0 130 (by omega), b0 131 (by omega)]
        refine ⟨by omega, by omega, ?_, ih (j + 1) _ (by omega) (fun q hq => by rw [zU_off q (by omega), zU_off q (by omega), zU_off q (by omega)]; exact hM q hq) ?_ ?_ ?_ ?_ ?_⟩
        · rw [(hC0.en1 (by omega)).2.2.2]
          exact (hI.W.2.2.2 _ (by omega)).1.2.2.2.2.2.2.2
        · rw [zU_off 169 (by omega), zU_off 169 (by omega), zU_off 169 (by omega)]; exact k1
        · rw [zU_off 170 (by omega), zU_off 170 (by omega), zU_off 170 (by omega)]; exact k2
        · rw [zU_off 171 (by omega), zU_off 171 (by omega)]
          exact zblk_s (m := (j : Int)) (by omega) k3 rfl
        · rw [zU_off 172 (by omega)]
          exact zblk_s (μ := zU M 171 (12 * (i : Int) + (j : Int)) (N 130 (j : Int))) (m := (j : Int)) (by omega) (by rw [zU_off 172 (by omega)]; exact k4) rfl
        · exact zblk_s (m := (j : Int)) (by omega) (by rw [zU_off 173 (by omega), zU_off 173 (by omega)]; exact k5) rfl
    have lp1 : ∀ (k j : Nat) (M : zM), j + k = 23 → (∀ q, ¬ (169 ≤ q ∧ q ≤ 170) → M q = B q) → zblk (M 169) (N 169) (N 123) (23 * i) j → zblk (M 170) (N 170) (N 124) (23 * i) j → zT g d mX12_keep K 55 [some (.inr (.inr ((0, 12), 119))), some (.inl (i : Int)), some (.inl (j : Int))] [] M := by
      clear z12
      intro k
      induction k with
      | zero =>
        intro j M hj hM k1 k2
        obtain rfl : j = 23 := by omega
        refine sX12_keep_55 ⟨fun _ => lp2 12 0 M (by omega) (fun q hq => hM q (by omega)) k1 k2 ?_ ?_ ?_, fun q => by clear z23; omega⟩
        · rw [hM 171 (by omega), b0 171 (by omega)]; exact zblk_0 _ _ _
        · rw [hM 172 (by omega), b0 172 (by omega)]; exact zblk_0 _ _ _
        · rw [hM 173 (by omega), b0 173 (by omega)]; exact zblk_0 _ _ _
      | succ k ih =>
        intro j M hj hM k1 k2
        refine sX12_keep_55 ⟨fun q => by clear z23; omega, fun q => ?_⟩
        rw [z23]
        clear z23
        rw [zwi (x := 23 * (i : Int) + (j : Int)) (by omega) (by omega), zw_suc (by omega), hM 123 (by omega), hM 124 (by omega), b0 123 (by omega), b0 124 (by omega)]
        refine ⟨by omega, by omega, ih (j + 1) _ (by omega) (fun q hq => by rw [zU_off q (by omega), zU_off q (by omega)]; exact hM q hq) ?_ ?_⟩
        · rw [zU_off 169 (by omega)]
          exact zblk_s (m := (j : Int)) (by omega) k1 rfl
        · exact zblk_s (m := (j : Int)) (by omega) (by rw [zU_off 170 (by omega)]; exact k2) rfl
    clear z12 z23
    refine lp1 23 0 B (by omega) (fun _ _ => rfl) ?_ ?_
    · rw [b0 169 (by omega)]; exact zblk_0 _ _ _
    · rw [b0 170 (by omega)]; exact zblk_0 _ _ _
  · rw [if_neg (by omega)] at h
    exact h N hE hC0
end
