-- needs 20.walks 30 31 32 33 34 35 36 38 41 42 43 44 21.s06 21.s07
/-! what is read is right; the reference's rule -/
section
variable {H : Int → Int} {m : Int} {sub : Int → zRes} {l : Int} {deep : Bool}
def p_fn (f : Int → zRes) : Prop := ∀ a, (f a).2.2 = true → p_fine (f a).2.1
theorem p_join_b {c : Int} (h : ¬ p_join c l = 0) : -17 ≤ p_join c l ∧ p_join c l ≤ -11 := by
  unfold p_join at *
  repeat' split
  all_goals first | omega | (simp_all; done)
theorem p_more_fn (hs : p_fn sub) : ∀ (k : Nat) (a : Int) (c : List Int), p_fine c → (p_more H l sub k a c).2.2 = true → p_fine (p_more H l sub k a c).2.1
  | 0, a, c, hc, h => hc
  | k + 1, a, c, hc, h => by
    simp only [p_more] at h ⊢
    by_cases q : p_join (H a) l = 0
    · rw [if_pos q]; exact hc
    · rw [if_neg q] at h ⊢
      have h1 := hs (a + 1)
      generalize sub (a + 1) = r at *
      obtain ⟨a', c', ok⟩ := r
      cases ok
      · cases h
      · exact p_more_fn hs k a' _ (p_fine_bin (p_join_b q) hc (h1 rfl)) h
theorem p_level_fn (hs : p_fn sub) : p_fn (p_level H l sub) := by
  intro a h
  have h1 := hs a
  simp only [p_level] at h ⊢
  generalize sub a = r at *
  obtain ⟨a', c', ok⟩ := r
  cases ok
  · cases h
  · exact p_more_fn hs _ a' c' (h1 rfl) h
theorem p_core_fn (hs : p_fn sub) : p_fn (p_core H sub deep) := by
  intro a h
  have h1 := hs (a + 1)
  unfold p_core at h ⊢
  by_cases q : 48 ≤ H a ∧ H a ≤ 57
  · rw [if_pos q]
    have b := p_num_b (H := H) 3 a 0 (by omega) (by omega) (by omega) (by omega) (by omega)
    exact p_fine_one (by omega)
  · rw [if_neg q] at h ⊢
    by_cases q2 : H a = 40
    · rw [if_pos q2] at h ⊢
      cases deep
      · cases h
      · simp only [] at h ⊢
        generalize sub (a + 1) = r at *
        obtain ⟨a', c', ok⟩ := r
        cases ok
        · cases h
        · simp only [] at h ⊢
          by_cases q3 : H a' = 41
          · rw [if_pos q3]; exact h1 rfl
          · rw [if_neg q3] at h; cases h
    · rw [if_neg q2] at h ⊢
      by_cases q3 : p_letter (H a) = -1
      · rw [if_pos q3] at h; cases h
      · rw [if_neg q3]
        have b := p_letter_b q3
        exact p_fine_one (by omega)
theorem p_thing_fn (hs : p_fn sub) : ∀ k : Nat, p_fn (p_thing H sub deep k)
  | 0 => p_core_fn hs
  | k + 1 => by
    intro a h
    have ih := p_thing_fn hs k (a + 1)
    simp only [p_thing] at h ⊢
    by_cases q : H a = 33
    · rw [if_pos q] at h ⊢
      rw [p_app_3] at h
      generalize p_thing H sub deep k (a + 1) = r at *
      obtain ⟨a', c', ok⟩ := r
      cases ok
      · cases h
      · exact p_fine_un (Or.inl rfl) (ih rfl)
    · rw [if_neg q] at h ⊢
      by_cases q2 : H a = 45
      · rw [if_pos q2] at h ⊢
        rw [p_app_3] at h
        generalize p_thing H sub deep k (a + 1) = r at *
        obtain ⟨a', c', ok⟩ := r
        cases ok
        · cases h
        · exact p_fine_un (Or.inr rfl) (ih rfl)
      · rw [if_neg q2] at h ⊢
        exact p_core_fn hs a h
theorem p_r_fn : ∀ r : Nat, p_fn (p_r H r)
  | 0 => p_thing_fn (fun a h => by cases h) 41
  | r + 1 => by
    have ih := p_r_fn r
    simp only [p_r]
    by_cases q : (r + 1) % 5 = 0
    · rw [if_pos q]; exact p_thing_fn ih 41
    · rw [if_neg q]; exact p_level_fn ih
theorem p_fine_ne {c : List Int} (h : p_fine c) : 0 < c.length := by
  cases c with
  | nil =>
    have := h 0 (by omega)
    simp only [p_good] at this
    omega
  | cons x xs => simp
end
/-- the sign at a place of the reference's bytes -/
def p_H (t : Int → Int) (n : Int) (i : Int) : Int := if i < n ∧ i < 40 then t i else -1
/-- the rule that the reference keeps, and its code -/
def zRu (t : Int → Int) (n : Int) (co : Int → Int) (cn : Int) : Prop := (n = 0 ∧ cn = 0) ∨ ∃ c : List Int, (0 < n ∧ n ≤ 40) ∧ p_r (p_H t n) 29 0 = (n, c, true) ∧ cn = (c.length : Int) ∧ p_lies co c.length c
theorem zRu_R {t co : Int → Int} {n cn : Int} (h : zRu t n co cn) : cn = 0 ∨ ∃ k : Nat, cn = (k : Int) ∧ 0 < k ∧ r_ok co k := by
  rcases h with ⟨_, h⟩ | ⟨c, h1, h2, h3, h4⟩
  · exact Or.inl h
  · refine Or.inr ⟨c.length, h3, ?_, ?_⟩
    · have := p_r_fn (H := p_H t n) 29 0 (by rw [h2])
      rw [h2] at this
      exact p_fine_ne this
    · have f := p_r_fit (H := p_H t n) (m := n) (fun i hi => by unfold p_H; rw [if_neg (by omega)]) 29 0 (by omega)
      have g := p_r_fn (H := p_H t n) 29 0 (by rw [h2])
      rw [h2] at f g
      simp only [] at f g
      exact p_good_ok co c c.length h4 (by have := g 0 (by omega); exact this) (by omega)
section
variable {g : zG} {d : Nat} {K : Option zV → zM → Prop} {μ : zM} {co : Int → Int} {cn e a b x y : Int}
theorem z_hood0 (h : 0 ≤ x ∧ x ≤ 3) : zand (zshr x 0) 1 = x % 2 := by
  have : x = 0 ∨ x = 1 ∨ x = 2 ∨ x = 3 := by omega
  rcases this with rfl | rfl | rfl | rfl <;> decide
theorem z_hood1 (h : 0 ≤ x ∧ x ≤ 3) : zand (zshr x 1) 1 = x / 2 % 2 := by
  have : x = 0 ∨ x = 1 ∨ x = 2 ∨ x = 3 := by omega
  rcases this with rfl | rfl | rfl | rfl <;> decide
/-- all but what reading needs is as it was -/
def zEm (μ' μ : zM) : Prop := (∀ j, ¬ j = 119 → μ' j = μ j) ∧ ∀ i, ¬ (34 ≤ i ∧ i ≤ 40) → μ' 119 i = μ 119 i
theorem zEm.refl (μ : zM) : zEm μ μ := ⟨fun _ _ => rfl, fun _ _ => rfl⟩
theorem zEm.trans {a b c : zM} (h : zEm a b) (h' : zEm b c) : zEm a c := ⟨fun j hj => (h.1 j hj).trans (h'.1 j hj), fun i hi => (h.2 i hi).trans (h'.2 i hi)⟩
theorem vM_same {μ μ' : zM} (h1 : ∀ j, 120 ≤ j → j ≤ 131 → μ' j = μ j) (h2 : ∀ i, i = 0 ∨ i = 6 ∨ 14 ≤ i ∧ i ≤ 17 → μ' 119 i = μ 119 i) : vM μ' co cn = vM μ co cn := by
  funext k i
  match k with
  | 0 => simp only [vM]; rw [h1 123 (by omega) (by omega)]
  | 1 => simp only [vM]; rw [h1 124 (by omega) (by omega)]
  | 2 => simp only [vM]; rw [h1 130 (by omega) (by omega), h2 6 (by omega)]
  | 3 => simp only [vM]; rw [h1 131 (by omega) (by omega), h2 6 (by omega)]
  | 4 => simp only [vM]; rw [h1 129 (by omega) (by omega)]
  | 5 =>
    simp only [vM, y_cl]
    split
    · exact h2 _ (by omega)
    · rfl
  | 6 => simp only [vM]; rw [h1 120 (by omega) (by omega)]
  | 7 => simp only [vM]; rw [h1 121 (by omega) (by omega)]
  | 8 => simp only [vM]; rw [h1 122 (by omega) (by omega)]
  | 9 => simp only [vM]; rw [h1 125 (by omega) (by omega)]
  | 10 => simp only [vM]; rw [h1 126 (by omega) (by omega)]
  | 11 => simp only [vM]; rw [h1 127 (by omega) (by omega)]
  | 12 => simp only [vM]; rw [h1 128 (by omega) (by omega)]
  | 13 => simp only [vM]; rw [h2 6 (by omega), h2 0 (by omega), h2 16 (by omega), h2 17 (by omega)]
  | 14 => simp only [vM]
  | 15 => simp only [vM]
  | n + 16 => simp only [vM]
theorem zEm.v {μ μ' : zM} (h : zEm μ' μ) : vM μ' co cn = vM μ co cn := vM_same (fun j _ _ => h.1 j (by omega)) (fun i _ => h.2 i (by omega))
theorem m_letter {bb : Bool} {c : Int} (hd : 1 ≤ d) (hW : y_W (vM μ co cn)) (he : 0 ≤ e ∧ e < μ 119 6) (hx : 0 ≤ x ∧ x < 23) (h38 : μ 119 38 = e) (h39 : μ 119 39 = x) (h40 : μ 119 40 = zB bb) (hc : ¬ p_letter c = -1) (h : K (some (.inl (f_lets (vM μ co cn) x e bb (p_letter c)))) μ) : zCall g d 189 [.inr (.inr ((0, 12), 119)), .inl c] μ K := by
  have w6 := v_env hW
  have w2 := v_en hW he
  have w4 := (v_st hW hx).1
  have v9 : vM μ co cn 9 e = μ 125 e := y_in (by omega)
  have v10 : vM μ co cn 10 e = μ 126 e := y_in (by omega)
  have v12 : vM μ co cn 12 e = μ 128 e := y_in (by omega)
  have v4 : vM μ co cn 4 e = μ 129 e := y_in (by omega)
  have v7 : vM μ co cn 7 x = μ 121 x := y_in hx
  have v51 : vM μ co cn 5 1 = μ 119 15 := by simp [vM, y_cl]
  have pb := p_letter_b hc
  have cs : c = 108 ∨ c = 99 ∨ c = 118 ∨ c = 100 ∨ c = 115 ∨ c = 110 ∨ c = 98 ∨ c = 104 := by
    unfold p_letter at hc
    by_cases q : c = 108 ∨ c = 99 ∨ c = 118 ∨ c = 100 ∨ c = 115 ∨ c = 110 ∨ c = 98 ∨ c = 104
    · exact q
    · exfalso; apply hc
      rw [if_neg (by omega), if_neg (by omega), if_neg (by omega), if_neg (by omega), if_neg (by omega), if_neg (by omega), if_neg (by omega), if_neg (by omega)]
  have hood : p_letter c = 7 → (μ 119 40 = 0 → K (some (.inl (zand (zshr (μ 121 (μ 119 39)) 0) 1))) μ) ∧ (¬ μ 119 40 = 0 → K (some (.inl (zand (zshr (μ 121 (μ 119 39)) 1) 1))) μ) := by
    intro q
    rw [q] at h
    have e7 : f_lets (vM μ co cn) x e bb 7 = zB (f_hood (vM μ co cn) x bb) := rfl
    rw [e7] at h
    rw [h39, z_hood0 (by omega), z_hood1 (by omega), h40]
    cases bb
    · refine ⟨fun _ => ?_, fun q2 => absurd rfl q2⟩
      refine k_int h ?_
      simp only [f_hood, v7]
      by_cases q3 : μ 121 x % 2 = 1
      · rw [decide_eq_true q3]; exact q3
      · rw [decide_eq_false q3]; show _ = 0; omega
    · refine ⟨fun q2 => absurd q2 (by decide), fun _ => ?_⟩
      refine k_int h ?_
      simp only [f_hood, v7]
      by_cases q3 : μ 121 x / 2 % 2 = 1
      · rw [decide_eq_true q3]; exact q3
      · rw [decide_eq_false q3]; show _ = 0; omega
  refine sX12_letter ?_
  rcases cs with rfl | rfl | rfl | rfl | rfl | rfl | rfl | rfl
  · have h' : K (some (.inl (μ 125 e))) μ := by
      have : f_lets (vM μ co cn) x e bb (p_letter 108) = μ 125 e := v9
      rw [this] at h; exact h
    refine ⟨?_, ?_, ?_, ?_, ?_, ?_, ?_, ?_, ?_, ?_, ?_, ?_, ?_, ?_, ?_, ?_, ?_, ?_, ?_, ?_, ?_, ?_⟩ <;> intro q <;> first | omega | exact ⟨by omega, by rw [h38]; exact h'⟩
  · have h' : K (some (.inl (μ 126 e))) μ := by
      have : f_lets (vM μ co cn) x e bb (p_letter 99) = μ 126 e := v10
      rw [this] at h; exact h
    refine ⟨?_, ?_, ?_, ?_, ?_, ?_, ?_, ?_, ?_, ?_, ?_, ?_, ?_, ?_, ?_, ?_, ?_, ?_, ?_, ?_, ?_, ?_⟩ <;> intro q <;> first | omega | exact ⟨by omega, by rw [h38]; exact h'⟩
  · have h' : K (some (.inl (μ 128 e))) μ := by
      have : f_lets (vM μ co cn) x e bb (p_letter 118) = μ 128 e := v12
      rw [this] at h; exact h
    refine ⟨?_, ?_, ?_, ?_, ?_, ?_, ?_, ?_, ?_, ?_, ?_, ?_, ?_, ?_, ?_, ?_, ?_, ?_, ?_, ?_, ?_, ?_⟩ <;> intro q <;> first | omega | exact ⟨by omega, fun q2 => k_int h' (by rw [h38] at q2; omega), fun q2 => k_int h' (by rw [h38] at q2; omega)⟩
  · have h' : K (some (.inl (μ 129 e))) μ := by
      have : f_lets (vM μ co cn) x e bb (p_letter 100) = μ 129 e := v4
      rw [this] at h; exact h
    refine ⟨?_, ?_, ?_, ?_, ?_, ?_, ?_, ?_, ?_, ?_, ?_, ?_, ?_, ?_, ?_, ?_, ?_, ?_, ?_, ?_, ?_, ?_⟩ <;> intro q <;> first | omega | exact ⟨by omega, fun q2 => k_int h' (by rw [h38] at q2; omega), fun q2 => k_int h' (by rw [h38] at q2; omega)⟩
  · have h' : K (some (.inl (zB (f_steam (vM μ co cn) e (μ 119 15))))) μ := by
      have : f_lets (vM μ co cn) x e bb (p_letter 115) = zB (f_steam (vM μ co cn) e (μ 119 15)) := by rw [← v51]; rfl
      rw [this] at h; exact h
    refine ⟨?_, ?_, ?_, ?_, ?_, ?_, ?_, ?_, ?_, ?_, ?_, ?_, ?_, ?_, ?_, ?_, ?_, ?_, ?_, ?_, ?_, ?_⟩ <;> intro q <;> first | omega | exact ⟨by omega, by rw [h38]; exact m_steaming hW he (fun q2 => zb1 (k_one h' q2)) (fun q2 => zb0 (k_zero h' q2))⟩
  · have h' : K (some (.inl x)) μ := h
    refine ⟨?_, ?_, ?_, ?_, ?_, ?_, ?_, ?_, ?_, ?_, ?_, ?_, ?_, ?_, ?_, ?_, ?_, ?_, ?_, ?_, ?_, ?_⟩ <;> intro q <;> first | omega | (rw [h39]; exact h')
  · have h' : K (some (.inl (zB bb))) μ := h
    refine ⟨?_, ?_, ?_, ?_, ?_, ?_, ?_, ?_, ?_, ?_, ?_, ?_, ?_, ?_, ?_, ?_, ?_, ?_, ?_, ?_, ?_, ?_⟩ <;> intro q <;> first | omega | exact ⟨fun q2 => k_int h' (by omega), fun q2 => k_int h' (by have := zB_01 bb; omega)⟩
  · have hh := hood rfl
    refine ⟨?_, ?_, ?_, ?_, ?_, ?_, ?_, ?_, ?_, ?_, ?_, ?_, ?_, ?_, ?_, ?_, ?_, ?_, ?_, ?_, ?_, ?_⟩ <;> intro q <;> first | omega | exact ⟨by omega, hh⟩
theorem m_isLet {bb : Bool} (hd : 310 ≤ d) (hW : y_W (vM μ co cn)) (hR : zRu (μ 138) (μ 119 28) co cn) (he : 0 ≤ e ∧ e < μ 119 6) (hx : 0 ≤ x ∧ x < 23) (hb : b = zB bb)
    (h1 : ∀ μ', zEm μ' μ → f_let (vM μ co cn) x e bb = true → K (some (.inl 1)) μ') (h0 : ∀ μ', zEm μ' μ → f_let (vM μ co cn) x e bb = false → K (some (.inl 0)) μ') : zCall g d 191 [.inr (.inr ((0, 12), 119)), .inl e, .inl x, .inl b] μ K := by
  have y15 : vM μ co cn 15 0 = cn := by simp only [vM]
  rcases hR with ⟨q, hcn⟩ | ⟨c, hn, hp, hcn, hl⟩
  · exact sX12_isLet ⟨fun q2 => absurd q q2, fun _ => h1 μ (zEm.refl μ) (by unfold f_let; rw [y15, decide_eq_true hcn, Bool.true_or])⟩
  · have fine := p_r_fn (H := p_H (μ 138) (μ 119 28)) 29 0 (by rw [hp])
    rw [hp] at fine
    have hpos := p_fine_ne fine
    simp only [] at hpos
    refine sX12_isLet ⟨fun q => ⟨by rw [hb]; exact zB_01 bb, by omega, ?_⟩, fun q => absurd q (by omega)⟩
    generalize hM0 : zU (zU (zU (zU (zU (zU (zU μ 119 34 138) 119 35 (μ 119 28)) 119 36 0) 119 37 (-1)) 119 38 e) 119 39 x) 119 40 b = M0
    have m34 : M0 119 34 = 138 := by rw [← hM0]; simp [zU]
    have m35 : M0 119 35 = μ 119 28 := by rw [← hM0]; simp [zU]
    have m36 : M0 119 36 = 0 := by rw [← hM0]; simp [zU]
    have m37 : M0 119 37 = -1 := by rw [← hM0]; simp [zU]
    have m38 : M0 119 38 = e := by rw [← hM0]; simp [zU]
    have m39 : M0 119 39 = x := by rw [← hM0]; simp [zU]
    have m40 : M0 119 40 = zB bb := by rw [← hM0, hb]; simp [zU]
    have hE : zEm M0 μ := by
      rw [← hM0]
      refine ⟨fun j hj => ?_, fun i hi => ?_⟩
      · rw [zU_off j hj, zU_off j hj, zU_off j hj, zU_off j hj, zU_off j hj, zU_off j hj, zU_off j hj]
      · rw [zU_ne (by omega), zU_ne (by omega), zU_ne (by omega), zU_ne (by omega), zU_ne (by omega), zU_ne (by omega), zU_ne (by omega)]
    have hh : n_here (p_H (μ 138) (μ 119 28)) (μ 119 28) M0 := by
      refine ⟨by omega, Or.inl m34, fun i hi => ?_, fun i hi => ?_⟩
      · rw [m35, m34, show ((138 : Int)).toNat = 138 from rfl, hE.1 138 (by omega)]; rfl
      · unfold p_H; rw [if_neg (by omega)]
    have evs : ∀ M, n_same M M0 → zEm M μ := fun M hM => ⟨fun j hj => by rw [hM.1 j hj, hE.1 j hj], fun i hi => by rw [hM.2 i (by omega) (by omega), hE.2 i hi]⟩
    have hl2 : n_let M0 (f_lets (vM μ co cn) x e bb) g := by
      intro _ d' M K' c' hd' hM hc' hK'
      have ev := (evs M hM).v (co := co) (cn := cn)
      refine m_letter (co := co) (cn := cn) (e := e) (x := x) (bb := bb) hd' (by rw [ev]; exact hW) (by rw [(evs M hM).2 6 (by omega)]; exact he) hx (by rw [hM.2 38 (by omega) (by omega)]; exact m38) (by rw [hM.2 39 (by omega) (by omega)]; exact m39) (by rw [hM.2 40 (by omega) (by omega)]; exact m40) hc' ?_
      rw [ev]; exact hK'
    have call := m_read (d := d - 1) hh hl2 29 (by omega) (by omega)
    refine call M0 _ ⟨fun _ _ => rfl, fun _ _ _ => rfl⟩ (by omega) m37 ?_
    rw [m36, hp]
    refine ⟨fun M v hM _ _ _ hv => zi ?_, fun M v hM ho => by cases ho⟩
    have hv2 := hv (by omega)
    have ev := evs M hM
    have hval : r_val (f_lets (vM μ co cn) x e bb) co c.length = v := by
      unfold r_val
      rw [← p_run_go _ co (fun _ => 0) c c.length hl]
      exact (hv2 (fun _ => 0) 0).2.1
    have hval2 : r_val (f_lets (vM μ co cn) x e bb) (vM μ co cn 14) (vM μ co cn 15 0).toNat = v := by
      rw [y15, show cn.toNat = c.length from by omega, ← hval]
      have hok := (zRu_R (t := μ 138) (n := μ 119 28) (Or.inr ⟨c, hn, hp, hcn, hl⟩)).resolve_left (by omega)
      obtain ⟨k, hk, _, hok⟩ := hok
      have : k = c.length := by omega
      subst this
      have := r_val_eq (S := fun _ => 0) (L := f_lets (vM μ co cn) x e bb) (L' := f_lets (vM μ co cn) x e bb) (co := co) (co' := vM μ co cn 14) hok (fun _ _ => rfl) (fun k hk => by
        simp only [vM]
        rw [y_in (by omega)])
      exact this.symm
    refine ⟨fun q3 => h0 M ev ?_, fun q3 => h1 M ev ?_⟩
    · unfold f_let
      rw [hval2, q3, y15]
      have : ¬ cn = 0 := by omega
      simp [this]
    · unfold f_let
      rw [hval2]
      simp [q3]
end
