-- needs 20.walks 30 31 32 34 35 36 37 38 21.s04
/-! one gets out of its stall -/
/-- whether one may go aside there -/
def f_side (Y : zM) (e p : Int) : Bool := decide (¬ p = Y 2 e) && f_stand Y (f_ahead Y e) p
/-- the best place aside of those below -/
def f_toL (Y : zM) (e : Int) : Nat → Int
  | 0 => -1
  | p + 1 => if f_side Y e p = true ∧ (f_toL Y e p = -1 ∨ f_steps (Y 13 0) (Y 2 e) p < f_steps (Y 13 0) (Y 2 e) (f_toL Y e p)) then p else f_toL Y e p
def f_to (Y : zM) (e : Int) : Int := if f_ahead Y e = -1 then -1 else f_toL Y e (Y 13 0 + 1).toNat
def f_frees (Y : zM) (e : Int) : Bool := f_may Y e (Y 5 1) && (decide (f_ahead Y e = -1) || (f_may Y (f_ahead Y e) (Y 5 1) && decide (¬ f_to Y e = -1)))
def f_am (Y : zM) (e : Int) : Int := if f_ahead Y e = -1 then 0 else f_min Y (Y 2 e) (f_to Y e)
def f_om (Y : zM) (e : Int) : Int := if f_ahead Y e = -1 then f_min Y (Y 2 e) (Y 13 0) else Y 13 1 * (f_steps (Y 13 0) (f_to Y e) (Y 2 e) + f_steps (Y 13 0) (Y 2 e) (Y 13 0)) + 2 * Y 13 2
/-- how all stand then -/
def f_free (Y : zM) (e : Int) : zM := if f_ahead Y e = -1 then f_bring Y e (Y 13 0) (f_om Y e) else f_bring (f_bring Y (f_ahead Y e) (f_to Y e) (f_am Y e)) e (Y 13 0) (f_om Y e)
def f_isTo (Y : zM) (e : Int) (m : Int) (t : Int) : Prop := (t = -1 ∧ ∀ p, 0 ≤ p ∧ p < m → f_side Y e p = false) ∨ ((0 ≤ t ∧ t < m) ∧ f_side Y e t = true ∧ ∀ p, 0 ≤ p ∧ p < m → f_side Y e p = true → f_steps (Y 13 0) (Y 2 e) t < f_steps (Y 13 0) (Y 2 e) p ∨ (f_steps (Y 13 0) (Y 2 e) t = f_steps (Y 13 0) (Y 2 e) p ∧ t ≤ p))
theorem f_toL_is (Y : zM) (e : Int) : ∀ m : Nat, f_isTo Y e m (f_toL Y e m)
  | 0 => Or.inl ⟨rfl, fun p hp => by omega⟩
  | m + 1 => by
    have ih := f_toL_is Y e m
    simp only [f_toL]
    generalize f_toL Y e m = t at *
    by_cases q : f_side Y e m = true ∧ (t = -1 ∨ f_steps (Y 13 0) (Y 2 e) m < f_steps (Y 13 0) (Y 2 e) t)
    · rw [if_pos q]
      refine Or.inr ⟨by omega, q.1, fun p hp hs => ?_⟩
      by_cases hpm : p = m
      · subst hpm; exact Or.inr ⟨rfl, by omega⟩
      · rcases ih with ⟨rfl, ih⟩ | ⟨ht, h1, ih⟩
        · have := ih p (by omega)
          rw [this] at hs
          cases hs
        · have := ih p (by omega) hs
          omega
    · rw [if_neg q]
      rcases ih with ⟨rfl, ih⟩ | ⟨ht, h1, ih⟩
      · refine Or.inl ⟨rfl, fun p hp => ?_⟩
        by_cases hpm : p = m
        · subst hpm
          cases hh : f_side Y e m with
          | true => exact absurd ⟨hh, Or.inl rfl⟩ q
          | false => rfl
        · exact ih p (by omega)
      · refine Or.inr ⟨by omega, h1, fun p hp hs => ?_⟩
        by_cases hpm : p = m
        · subst hpm
          have : ¬ f_steps (Y 13 0) (Y 2 e) m < f_steps (Y 13 0) (Y 2 e) t := fun h => q ⟨hs, Or.inr h⟩
          omega
        · exact ih p (by omega) hs
theorem f_isTo_uniq {Y : zM} {e m t t' : Int} (h : f_isTo Y e m t) (h' : f_isTo Y e m t') : t = t' := by
  rcases h with ⟨rfl, h⟩ | ⟨h1, h2, h3⟩
  · rcases h' with ⟨rfl, h'⟩ | ⟨g1, g2, g3⟩
    · rfl
    · rw [h t' g1] at g2; cases g2
  · rcases h' with ⟨rfl, h'⟩ | ⟨g1, g2, g3⟩
    · rw [h' t h1] at h2; cases h2
    · have a := h3 t' g1 g2
      have b := g3 t h1 h2
      omega
/-- where one goes aside -/
theorem f_to_eq {Y : zM} {e t : Int} (hn : 0 ≤ Y 13 0) (ha : ¬ f_ahead Y e = -1) (h : f_isTo Y e (Y 13 0 + 1) t) : f_to Y e = t := by
  unfold f_to
  rw [if_neg ha]
  have := f_toL_is Y e (Y 13 0 + 1).toNat
  rw [show (((Y 13 0 + 1).toNat : Nat) : Int) = Y 13 0 + 1 from by omega] at this
  exact f_isTo_uniq this h
theorem f_to_is {Y : zM} {e : Int} (hn : 0 ≤ Y 13 0) (ha : ¬ f_ahead Y e = -1) : f_isTo Y e (Y 13 0 + 1) (f_to Y e) := by
  have := f_toL_is Y e (Y 13 0 + 1).toNat
  rw [show (((Y 13 0 + 1).toNat : Nat) : Int) = Y 13 0 + 1 from by omega] at this
  unfold f_to
  rw [if_neg ha]
  exact this
theorem f_ahead_b {Y : zM} {e : Int} (h : y_W Y) (he : 0 ≤ e ∧ e < 12) (ha : ¬ f_ahead Y e = -1) : (0 ≤ f_ahead Y e ∧ f_ahead Y e < Y 13 3) ∧ Y 2 (f_ahead Y e) = Y 2 e ∧ ¬ Y 2 e = -1 ∧ Y 0 (Y 2 e) = e ∧ Y 1 (Y 2 e) = f_ahead Y e ∧ ¬ f_ahead Y e = e ∧ (0 ≤ Y 2 e ∧ Y 2 e < Y 13 0) := by
  have w := h.1
  have w2 := (h.2.2.2 e he).2.1
  unfold f_ahead at *
  split at ha
  · rename_i q
    rw [if_pos q]
    have q2 : ¬ Y 2 e = -1 ∧ Y 0 (Y 2 e) = e := by simpa [f_atb] using q
    have w3 := h.2.2.1 (Y 2 e) (by omega)
    have w4 := w3.2.2.2 ha
    exact ⟨by omega, w4.1, q2.1, q2.2, rfl, by omega, by omega⟩
  · exact absurd rfl ha
theorem f_ahead_front {Y : zM} {e : Int} (h : y_W Y) (he : 0 ≤ e ∧ e < 12) (ha : ¬ f_ahead Y e = -1) : f_ahead Y (f_ahead Y e) = -1 := by
  have b := f_ahead_b h he ha
  generalize hf : f_ahead Y e = f at *
  unfold f_ahead f_atb
  rw [if_neg]
  intro q
  have q2 : ¬ Y 2 f = -1 ∧ Y 0 (Y 2 f) = f := by simpa using q
  rw [b.2.1, b.2.2.2.1] at q2
  omega
section
variable {g : zG} {d : Nat} {K : Option zV → zM → Prop} {μ : zM} {s o : Nat} {e a b x y : Int}
theorem f_frees_0 {Y : zM} (ha : f_ahead Y e = -1) : f_frees Y e = f_may Y e (Y 5 1) := by simp [f_frees, ha]
/-- all cells but these are as they were -/
def zE25 (μ' μ : zM) : Prop := ∀ j, ¬ (j = 16 ∨ j = 17 ∨ j = 25) → μ' j = μ j
theorem zE25.v {a b : zM} {s : Nat} (h : zE25 a b) (hr : zrl b) (hs : zs s) : vC a s = vC b s := by
  unfold zs at hs
  exact vC_same hr (fun j _ _ => h j (by omega)) (fun j _ _ => h j (by omega))
theorem zE25.rl {a b : zM} (h : zE25 a b) (hr : zrl b) : zrl a := zrl_same hr (h 12 (by omega))
theorem zs_20 {s : Nat} (hs : zs s) : 20 ≤ s := by unfold zs at hs; omega
theorem c_freeing (hd : 3 ≤ d) (hs : zs s) (hr : zrl μ) (hW : y_W (vC μ s)) (hR : y_R (vC μ s)) (he : 0 ≤ e ∧ e < 12) (hin : ¬ μ (s + 3) e = -1)
    (h : ∀ μ', zE25 μ' μ → (f_frees (vC μ s) e = true → μ' 25 3 = f_to (vC μ s) e ∧ μ' 25 4 = f_am (vC μ s) e ∧ μ' 25 5 = f_om (vC μ s) e) → K (some (.inl (if f_frees (vC μ s) e = true then f_am (vC μ s) e + f_om (vC μ s) e else -2))) μ') : zCall g d 106 [.inr (.inr ((0, 10), 25)), .inr (.inr ((0, 7), s)), .inl e] μ K := by
  have h20 := zs_20 hs
  have w1 := w_env hW
  have w2 := w_en hW he
  have w3 := w_tn hW
  have v2 : vC μ s 2 e = μ (s + 3) e := y_in he
  have v51 : vC μ s 5 1 = μ s 1 := by simp [vC, y_cl]
  have e13 : vC μ s 13 0 = μ 1 0 := by simp [vC, y_cl]
  have e131 : vC μ s 13 1 = μ 1 1 := by simp [vC, y_cl]
  have e132 : vC μ s 13 2 = μ 1 2 := by simp [vC, y_cl]
  have no : f_frees (vC μ s) e = false → K (some (.inl (-2))) μ := by
    intro q
    have := h μ (fun _ _ => rfl) (fun q2 => by rw [q] at q2; cases q2)
    rw [q] at this
    exact this
  refine sX10_freeing ⟨he, by omega, c_inFrontOf (by omega) he (by omega) (zi (c_mayGo (by omega) hW he (by omega) (fun qm => zb1 ⟨fun qa => ?_, fun qa => ?_⟩) (fun qm => zb0 (no ?_))))⟩
  · -- nobody stands in front
    have hE : zE25 (zU (zU μ 25 3 (-1)) 25 4 0) μ := fun j hj => by rw [zU_off j (by omega), zU_off j (by omega)]
    have ev := hE.v hr hs
    refine c_minutes (by omega) (by rw [ev]; exact hW) ?_ ?_ (zi ?_)
    · rw [hE 1 (by omega)]; omega
    · rw [hE 1 (by omega)]; omega
    · rw [ev]
      have hf : f_frees (vC μ s) e = true := by rw [f_frees_0 qa, v51]; exact qm
      have ho : f_om (vC μ s) e = f_min (vC μ s) (μ (s + 3) e) (μ 1 0) := by unfold f_om; rw [if_pos qa, v2, e13]
      have hA : f_am (vC μ s) e = 0 := by unfold f_am; rw [if_pos qa]
      have hT : f_to (vC μ s) e = -1 := by unfold f_to; rw [if_pos qa]
      have := h (zU (zU (zU μ 25 3 (-1)) 25 4 0) 25 5 (f_min (vC μ s) (μ (s + 3) e) (μ 1 0))) (fun j hj => by rw [zU_off j (by omega)]; exact hE j hj) (fun _ => by
        refine ⟨?_, ?_, ?_⟩
        · rw [zU_ne (by omega), zU_ne (by omega), zU_eq, hT]
        · rw [zU_ne (by omega), zU_eq, hA]
        · rw [zU_eq, ho])
      rw [if_pos hf, hA, ho, Int.zero_add] at this
      exact this
  · have fa := f_ahead_b hW he qa
    have hf12 : 0 ≤ f_ahead (vC μ s) e ∧ f_ahead (vC μ s) e < 12 := by
      have : vC μ s 13 3 = μ 5 0 := by simp only [vC]; rfl
      omega
    refine c_mayGo (by omega) hW hf12 (by omega) (fun qm2 => zb1 ?_) (fun qm2 => zb0 (no ?_))
    · have hE : zE25 (zU (zU μ 25 3 (-1)) 25 4 0) μ := fun j hj => by rw [zU_off j (by omega), zU_off j (by omega)]
      have ev := hE.v hr hs
      refine c_minutes (by omega) (by rw [ev]; exact hW) ?_ ?_ (zi ?_)
      · rw [hE 1 (by omega)]; omega
      · rw [hE 1 (by omega)]; omega
      rw [ev]
      -- the end
      have fin : ∀ M, zE25 M μ → f_isTo (vC μ s) e (vC μ s 13 0 + 1) (M 25 3) → zT g d mX10_freeing K 253 [some (.inr (.inr ((0, 10), 25))), some (.inr (.inr ((0, 7), s))), none, some (.inl (μ (s + 3) e)), none, none, none, none, none, none, none] [] M := by
        intro M hM ht
        have et := f_to_eq (by omega) qa ht
        refine sX10_freeing_253 ⟨fun q => ?_, fun q => ?_⟩
        · have hb : 0 ≤ M 25 3 ∧ M 25 3 ≤ μ 1 0 := by
            rcases ht with ⟨ht, _⟩ | ⟨ht, _⟩ <;> omega
          have evM := hM.v hr hs
          have M1 : M 1 = μ 1 := hM 1 (by omega)
          have hff : f_frees (vC μ s) e = true := by
            unfold f_frees
            rw [v51, qm, qm2, et]
            simp [q]
          have ham : f_am (vC μ s) e = f_min (vC μ s) (μ (s + 3) e) (M 25 3) := by unfold f_am; rw [if_neg qa, v2, et]
          have hom : f_om (vC μ s) e = μ 1 1 * (f_steps (μ 1 0) (M 25 3) (μ (s + 3) e) + f_steps (μ 1 0) (μ (s + 3) e) (μ 1 0)) + 2 * μ 1 2 := by unfold f_om; rw [if_neg qa, v2, et, e13, e131, e132]
          have bm := f_min_b hW (a := μ (s + 3) e) (b := M 25 3) (by omega) (by omega)
          refine ⟨by omega, c_minutes (by omega) (by rw [evM]; exact hW) (by rw [M1]; omega) (by rw [M1]; omega) (zi ?_)⟩
          rw [evM, ← ham]
          have M1' : ∀ v, zU M 25 4 v 1 = μ 1 := fun v => by rw [zU_off 1 (by omega), M1]
          refine c_steps (by rw [M1']; omega) (by omega) (by omega) (zi ?_)
          rw [M1']
          refine c_steps (by rw [M1']; omega) (by omega) (by omega) (zi ?_)
          rw [M1', zU_eq]
          have b1 := f_steps_b (n := μ 1 0) (a := M 25 3) (b := μ (s + 3) e) (by omega) (by omega) (by omega)
          have b2 := f_steps_b (n := μ 1 0) (a := μ (s + 3) e) (b := μ 1 0) (by omega) (by omega) (by omega)
          rw [ham]
          have hK := h
          generalize f_steps (μ 1 0) (M 25 3) (μ (s + 3) e) = p at *
          generalize f_steps (μ 1 0) (μ (s + 3) e) (μ 1 0) = r at *
          generalize f_min (vC μ s) (μ (s + 3) e) (M 25 3) = am at *
          have b3 : 0 ≤ μ 1 1 * (p + r) ∧ μ 1 1 * (p + r) ≤ 9 * 24 := by
            constructor
            · exact Int.mul_nonneg (by omega) (by omega)
            · exact Int.mul_le_mul (by omega) (by omega) (by omega) (by omega)
          rw [zwi (x := p + r) (by omega) (by omega), zwi (x := μ 1 1 * (p + r)) (by omega) (by omega), zwi (x := 2 * μ 1 2) (by omega) (by omega), zwi (x := μ 1 1 * (p + r) + 2 * μ 1 2) (by omega) (by omega), zwi (x := am + (μ 1 1 * (p + r) + 2 * μ 1 2)) (by omega) (by omega)]
          have := hK (zU (zU M 25 4 am) 25 5 (μ 1 1 * (p + r) + 2 * μ 1 2)) (fun j hj => by rw [zU_off j (by omega), zU_off j (by omega)]; exact hM j hj) (fun _ => by
            refine ⟨?_, ?_, ?_⟩
            · rw [zU_ne (by omega), zU_ne (by omega), et]
            · rw [zU_ne (by omega), zU_eq, ham]
            · rw [zU_eq, hom])
          rw [if_pos hff, hom, ham] at this
          exact this
        · rw [q] at et
          have hff : f_frees (vC μ s) e = false := by
            unfold f_frees
            rw [et]
            simp [qa]
          have := h M hM (fun q2 => by rw [hff] at q2; cases q2)
          rw [hff] at this
          exact this
      -- the loop
      have loop : ∀ (m : Nat) (i : Int) (M : zM), i + m = 13 → 1 ≤ i → zE25 M μ → (M 25 3 = -1 → ∀ p, 0 ≤ p ∧ p ≤ μ 1 0 → f_steps (μ 1 0) (μ (s + 3) e) p < i → f_side (vC μ s) e p = false) → (¬ M 25 3 = -1 → f_isTo (vC μ s) e (vC μ s 13 0 + 1) (M 25 3)) → zT g d mX10_freeing K 102 [some (.inr (.inr ((0, 10), 25))), some (.inr (.inr ((0, 7), s))), none, some (.inl (μ (s + 3) e)), some (.inl (f_ahead (vC μ s) e)), some (.inl (zw (μ 1 0 + 1))), some (.inl i), none, none, none, none] [] M := by
        intro m
        induction m with
        | zero =>
          intro i M hi h1 hM n1 n2
          refine sX10_freeing_102 ?_
          rw [zwi (x := μ 1 0 + 1) (by omega) (by omega)]
          have ed : zw (Int.tdiv (μ 1 0 + 1) 2) = (μ 1 0 + 1) / 2 := by
            rw [Int.tdiv_eq_ediv_of_nonneg (by omega)]
            exact zwi (by omega) (by omega)
          rw [ed]
          refine ⟨fun q => fin M hM ?_, fun q => absurd q (by omega)⟩
          by_cases q2 : M 25 3 = -1
          · refine Or.inl ⟨q2, fun p hp => n1 q2 p (by omega) ?_⟩
            unfold f_steps; omega
          · exact n2 q2
        | succ m ih =>
          intro i M hi h1 hM n1 n2
          refine sX10_freeing_102 ?_
          have evM := hM.v hr hs
          have M1 : M 1 = μ 1 := hM 1 (by omega)
          have z1 : zw (i + 1) = i + 1 := zwi (by omega) (by omega)
          have zx : zw (μ 1 0 + 1) = μ 1 0 + 1 := zwi (by omega) (by omega)
          have ed : zw (Int.tdiv (μ 1 0 + 1) 2) = (μ 1 0 + 1) / 2 := by
            rw [Int.tdiv_eq_ediv_of_nonneg (by omega)]
            exact zwi (by omega) (by omega)
          rw [zx, ed]
          refine ⟨fun q => fin M hM ?_, fun q => ⟨fun q2 => fin M hM (n2 q2), fun q2 => ?_⟩⟩
          · by_cases q2 : M 25 3 = -1
            · refine Or.inl ⟨q2, fun p hp => n1 q2 p (by omega) ?_⟩
              unfold f_steps; omega
            · exact n2 q2
          · have nn := n1 q2
            -- one step: two places u, w
            have step : ∀ u w, (0 ≤ u ∧ u ≤ μ 1 0) → (0 ≤ w ∧ w ≤ μ 1 0) → (∀ p, 0 ≤ p ∧ p ≤ μ 1 0 → (f_steps (μ 1 0) (μ (s + 3) e) p = i ↔ (p = u ∨ p = w))) → zT g d mX10_freeing K 164 [some (.inr (.inr ((0, 10), 25))), some (.inr (.inr ((0, 7), s))), none, some (.inl (μ (s + 3) e)), some (.inl (f_ahead (vC μ s) e)), some (.inl (μ 1 0 + 1)), some (.inl i), some (.inl u), none, none, none] [.inl w] M := by
              intro u w hu hw huw
              have su : f_steps (μ 1 0) (μ (s + 3) e) u = i := (huw u hu).2 (Or.inl rfl)
              have sw : f_steps (μ 1 0) (μ (s + 3) e) w = i := (huw w hw).2 (Or.inr rfl)
              have ne : ∀ p, f_steps (μ 1 0) (μ (s + 3) e) p = i → 0 ≤ p ∧ p ≤ μ 1 0 → ¬ p = μ (s + 3) e := by
                intro p hp hb hq
                subst hq
                unfold f_steps at hp; omega
              have side : ∀ p, (p = u ∨ p = w) → f_side (vC μ s) e p = f_stand (vC μ s) (f_ahead (vC μ s) e) p := by
                intro p hp
                unfold f_side
                rw [v2]
                have : ¬ p = μ (s + 3) e := by rcases hp with rfl | rfl <;> apply ne <;> assumption
                simp [this]
              have sn : f_stand (vC μ s) (f_ahead (vC μ s) e) (μ 1 0) = true := by simp [f_stand, e13]
              have stk : ∀ p, f_takes (vC μ s) p (f_ahead (vC μ s) e) = true → f_stand (vC μ s) (f_ahead (vC μ s) e) p = true := by intro p hp; simp [f_stand, hp]
              have stn : ∀ p, ¬ p = μ 1 0 → f_takes (vC μ s) p (f_ahead (vC μ s) e) = false → f_stand (vC μ s) (f_ahead (vC μ s) e) p = false := by intro p hp hq; simp [f_stand, hq, e13, hp]
              have found : ∀ N t, zEq16 N M → (t = u ∨ t = w) → f_stand (vC μ s) (f_ahead (vC μ s) e) t = true → (∀ p, (p = u ∨ p = w) → f_stand (vC μ s) (f_ahead (vC μ s) e) p = true → t ≤ p) → zT g d mX10_freeing K 102 [some (.inr (.inr ((0, 10), 25))), some (.inr (.inr ((0, 7), s))), none, some (.inl (μ (s + 3) e)), some (.inl (f_ahead (vC μ s) e)), some (.inl (μ 1 0 + 1)), some (.inl (zw (i + 1))), none, none, none, none] [] (zU N 25 3 t) := by
                intro N t hN ht hst hmin
                have hb : 0 ≤ t ∧ t ≤ μ 1 0 := by rcases ht with rfl | rfl <;> assumption
                rw [z1, ← zx]
                refine ih (i + 1) (zU N 25 3 t) (by omega) (by omega) (fun j hj => by rw [zU_off j (by omega), hN j (by omega), hM j hj]) (fun q5 => by rw [zU_eq] at q5; omega) (fun _ => ?_)
                rw [zU_eq]
                have stt : f_steps (μ 1 0) (μ (s + 3) e) t = i := (huw t hb).2 ht
                refine Or.inr ⟨by omega, by rw [side t ht]; exact hst, fun p hp hsp => ?_⟩
                rw [e13, v2, stt]
                by_cases hlt : f_steps (μ 1 0) (μ (s + 3) e) p < i
                · rw [nn p (by omega) hlt] at hsp; cases hsp
                · by_cases heq : f_steps (μ 1 0) (μ (s + 3) e) p = i
                  · have hpu := (huw p (by omega)).1 heq
                    rw [side p hpu] at hsp
                    exact Or.inr ⟨heq.symm, hmin p hpu hsp⟩
                  · exact Or.inl (by omega)
              have none' : ∀ N, zEq16 N M → f_stand (vC μ s) (f_ahead (vC μ s) e) u = false → f_stand (vC μ s) (f_ahead (vC μ s) e) w = false → zT g d mX10_freeing K 102 [some (.inr (.inr ((0, 10), 25))), some (.inr (.inr ((0, 7), s))), none, some (.inl (μ (s + 3) e)), some (.inl (f_ahead (vC μ s) e)), some (.inl (μ 1 0 + 1)), some (.inl (zw (i + 1))), none, none, none, none] [] N := by
                intro N hN hu' hw'
                rw [z1, ← zx]
                refine ih (i + 1) N (by omega) (by omega) (fun j hj => by rw [hN j (by omega), hM j hj]) (fun _ p hp hlt => ?_) (fun q5 => absurd (by rw [hN 25 (by omega)]; exact q2) q5)
                by_cases hlt2 : f_steps (μ 1 0) (μ (s + 3) e) p < i
                · exact nn p hp hlt2
                · have hpu := (huw p hp).1 (by omega)
                  rw [side p hpu]
                  rcases hpu with rfl | rfl <;> assumption
              have rM := hM.rl hr
              have WM : y_W (vC M s) := by rw [evM]; exact hW
              have RM : y_R (vC M s) := by rw [evM]; exact hR
              refine sX10_freeing_164 ⟨by omega, fun qn => ⟨fun qx => ?_, fun qx => ?_⟩, fun qn => ?_⟩
              · rw [M1] at qn qx
                refine found M _ (zEq16.refl M) (by omega) ?_ (by intro p hp _; omega)
                rw [qx]; exact sn
              · rw [M1] at qn qx; omega
              · rw [M1] at qn
                refine c_takesIt (by omega) h20 rM WM RM hf12 (by omega) (fun N hN q5 => zb1 ?_) (fun N hN q5 => zb0 ⟨fun qx => ?_, fun qx => ?_⟩)
                · rw [evM] at q5
                  exact found N _ hN (by omega) (stk _ q5) (by intro p hp _; omega)
                · rw [hN 1 (by omega), M1] at qx
                  rw [evM] at q5
                  refine found N _ hN (by omega) (by rw [qx]; exact sn) ?_
                  intro p hp hsp
                  by_cases hpm : p = min u w
                  · rw [hpm, stn _ (by omega) q5] at hsp; cases hsp
                  · omega
                · rw [hN 1 (by omega), M1] at qx
                  rw [evM] at q5
                  have evN : vC N s = vC M s := hN.v rM h20
                  refine c_takesIt (by omega) h20 (hN.rl rM) (by rw [evN]; exact WM) (by rw [evN]; exact RM) hf12 (by omega) (fun N' hN' q6 => zb1 ?_) (fun N' hN' q6 => zb0 ?_)
                  · rw [evN, evM] at q6
                    refine found N' _ (hN'.trans hN) (by omega) (stk _ q6) ?_
                    intro p hp hsp
                    by_cases hpm : p = min u w
                    · rw [hpm, stn _ (by omega) q5] at hsp; cases hsp
                    · omega
                  · rw [evN, evM] at q6
                    have a1 := stn _ (by omega) q5
                    have a2 := stn _ qx q6
                    refine none' N' (hN'.trans hN) ?_ ?_
                    · by_cases hpm : u = min u w
                      · rw [hpm]; exact a1
                      · rw [show u = max u w from by omega]; exact a2
                    · by_cases hpm : w = min u w
                      · rw [hpm]; exact a1
                      · rw [show w = max u w from by omega]; exact a2
            have z3 : zw (μ (s + 3) e + i) = μ (s + 3) e + i := zwi (by omega) (by omega)
            have z4 : zw (μ (s + 3) e + i - (μ 1 0 + 1)) = μ (s + 3) e + i - (μ 1 0 + 1) := zwi (by omega) (by omega)
            have z5 : zw (μ (s + 3) e - i) = μ (s + 3) e - i := zwi (by omega) (by omega)
            have z6 : zw (μ (s + 3) e - i + (μ 1 0 + 1)) = μ (s + 3) e - i + (μ 1 0 + 1) := zwi (by omega) (by omega)
            rw [z3, z4, z5, z6]
            refine ⟨fun qa2 => ⟨fun qb => step _ _ (by omega) (by omega) ?_, fun qb => step _ _ (by omega) (by omega) ?_⟩, fun qa2 => ⟨fun qb => step _ _ (by omega) (by omega) ?_, fun qb => step _ _ (by omega) (by omega) ?_⟩⟩
            all_goals
              intro p hp
              unfold f_steps
              omega
      have eN : zU (zU (zU μ 25 3 (-1)) 25 4 0) 25 5 (f_min (vC μ s) (μ (s + 3) e) (μ 1 0)) 25 3 = -1 := by rw [zU_ne (by omega), zU_ne (by omega), zU_eq]
      have := loop 12 1 (zU (zU (zU μ 25 3 (-1)) 25 4 0) 25 5 (f_min (vC μ s) (μ (s + 3) e) (μ 1 0))) (by omega) (by omega) (fun j hj => by rw [zU_off j (by omega)]; exact hE j hj) (fun _ p hp hlt => by
        have : p = μ (s + 3) e := by unfold f_steps at hlt; omega
        unfold f_side
        rw [v2, this]
        simp) (fun q5 => absurd eN q5)
      exact this
    · unfold f_frees
      rw [v51, qm2]
      simp [qa]
  · unfold f_frees
    rw [v51, qm]
    simp
end
