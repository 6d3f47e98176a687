-- needs 20.walks 30 34 35 36 38 41 21.s01 21.s02
/-! THE CLASS READS THE TEXT as p_r does -/
def q_pre (H : Int → Int) (m : Int) (jd : Nat) (μ : zM) : Prop := (μ 12 7 = m ∧ 0 ≤ m ∧ m ≤ 40) ∧ (jd = 14 ∨ jd = 15) ∧ μ 12 4 = (jd : Int) ∧ (∀ i, 0 ≤ i ∧ i < m → (0 ≤ μ 13 i ∧ μ 13 i ≤ 255) ∧ H i = if μ 13 i < 128 then μ 13 i else μ 13 i - 256) ∧ (∀ i, m ≤ i → H i = -1) ∧ (0 ≤ μ 12 5 ∧ μ 12 5 ≤ μ 12 6 ∧ μ 12 6 ≤ m)
def q_post (jd : Nat) (μ μ' : zM) (a : Int) (c : List Int) : Prop := (∀ j, ¬ j = 12 → ¬ j = jd → μ' j = μ j) ∧ (∀ i, ¬ i = 5 → ¬ i = 6 → μ' 12 i = μ 12 i) ∧ μ' 12 6 = a ∧ μ' 12 5 = μ 12 5 + c.length ∧ (∀ i, 0 ≤ i ∧ i < μ 12 5 → μ' jd i = μ jd i) ∧ (∀ k : Nat, k < c.length → μ' jd (μ 12 5 + k) = c.getD k 0)
def q_call (g : zG) (d : Nat) (id : Nat) (args : List zV) (H : Int → Int) (m : Int) (jd : Nat) (f : Int → zRes) : Prop := ∀ (μ : zM) (K : Option zV → zM → Prop), q_pre H m jd μ → (∀ μ', q_post jd μ μ' (f (μ 12 6)).1 (f (μ 12 6)).2.1 → K (some (.inl (zB (f (μ 12 6)).2.2))) μ') → zCall g d id args μ K
theorem q_post_refl (jd : Nat) (μ : zM) : q_post jd μ μ (μ 12 6) [] := ⟨fun _ _ _ => rfl, fun _ _ _ => rfl, rfl, by simp, fun _ _ => rfl, fun k hk => by simp at hk⟩
theorem q_post_trans {jd : Nat} {μ μ1 μ2 : zM} {a a' : Int} {c c' : List Int} (h0 : 0 ≤ μ 12 5) (h : q_post jd μ μ1 a c) (h' : q_post jd μ1 μ2 a' c') : q_post jd μ μ2 a' (c ++ c') := by
  obtain ⟨h1, h2, h3, h4, h5, h6⟩ := h
  obtain ⟨g1, g2, g3, g4, g5, g6⟩ := h'
  refine ⟨fun j q1 q2 => by rw [g1 j q1 q2, h1 j q1 q2], fun i q1 q2 => by rw [g2 i q1 q2, h2 i q1 q2], g3, by rw [g4, h4, List.length_append]; omega, fun i hi => by rw [g5 i (by omega), h5 i hi], fun k hk => ?_⟩
  rw [List.length_append] at hk
  by_cases q : k < c.length
  · rw [g5 _ (by omega), h6 k q]
    simp [List.getD_eq_getElem?_getD, List.getElem?_append_left q]
  · have := g6 (k - c.length) (by omega)
    rw [h4] at this
    rw [show μ 12 5 + (k : Int) = μ 12 5 + (c.length : Int) + ((k - c.length : Nat) : Int) from by omega, this]
    simp [List.getD_eq_getElem?_getD, List.getElem?_append_right (Nat.le_of_not_lt q)]
theorem q_pre_post {H : Int → Int} {m : Int} {jd : Nat} {μ μ' : zM} {a : Int} {c : List Int} (h : q_pre H m jd μ) (h' : q_post jd μ μ' a c) (ha : μ 12 6 ≤ a ∧ a ≤ m) (hc : (c.length : Int) ≤ a - μ 12 6) : q_pre H m jd μ' := by
  obtain ⟨h1, h2, h3, h4, h5, h6⟩ := h
  obtain ⟨g1, g2, g3, g4, g5, g6⟩ := h'
  refine ⟨by rw [g2 7 (by omega) (by omega)]; exact h1, h2, by rw [g2 4 (by omega) (by omega)]; exact h3, fun i hi => by rw [g1 13 (by omega) (by omega)]; exact h4 i hi, h5, by omega⟩
section
variable {g : zG} {d : Nat} {K : Option zV → zM → Prop} {μ : zM} {s o : Nat} {e a b x y m l : Int} {H : Int → Int} {jd : Nat}
theorem q_at (h : q_pre H m jd μ) (ha : 0 ≤ x ∧ x < m) (c : Int) (hc : 0 ≤ c ∧ c < 128) : μ 13 x = c ↔ H x = c := by
  obtain ⟨h1, h2, h3, h4, h5, h6⟩ := h
  have := h4 x ha
  rw [this.2]
  split <;> omega
theorem p_join_eq (h : q_pre H m jd μ) (ha : 0 ≤ x ∧ x < m) : p_join (μ 13 x) l = p_join (H x) l := by
  obtain ⟨h1, h2, h3, h4, h5, h6⟩ := h
  have := h4 x ha
  rw [this.2]
  split
  · rfl
  · unfold p_join
    repeat rw [if_neg (by omega)]
theorem c_joining (h : K (some (.inl (p_join x l))) μ) : zCall g d 54 [.inl x, .inl l] μ K := by
  have k : ∀ v, v = p_join x l → K (some (.inl v)) μ := by rintro v rfl; exact h
  unfold p_join at k
  refine sX6_joining ?_
  repeat' first
    | refine And.intro ?_ ?_
    | intro _
  all_goals (refine k _ ?_; (repeat' split) <;> omega)
theorem c_isDigit (h1 : 48 ≤ x ∧ x ≤ 57 → K (some (.inl 1)) μ) (h0 : ¬ (48 ≤ x ∧ x ≤ 57) → K (some (.inl 0)) μ) : zCall g d 53 [.inl x] μ K := sX6_isDigit ⟨fun q => h0 (by omega), fun q => ⟨fun q2 => h0 (by omega), fun q2 => h1 (by omega)⟩⟩
theorem c_write (h : q_pre H m jd μ) (hl : μ 12 5 < 40) (hK : ∀ μ', q_post jd μ μ' (μ 12 6) [x] → K none μ') : zCall g d 55 [.inr (.inr ((0, 6), 12)), .inl x] μ K := by
  obtain ⟨h1, h2, h3, h4, h5, h6⟩ := h
  have key : K none (zU (zU μ jd (μ 12 5) x) 12 5 (zw (μ 12 5 + 1))) := by
    rw [zwi (x := μ 12 5 + 1) (by omega) (by omega)]
    refine hK _ ⟨fun j q1 q2 => by rw [zU_off j q1, zU_off j q2], fun i q1 q2 => by rw [zU_ne (by omega), zU_ne (by omega)], by rw [zU_ne (by omega), zU_ne (by omega)], by rw [zU_eq]; simp, fun i hi => by rw [zU_ne (by omega), zU_ne (by omega)], fun k hk => ?_⟩
    have : k = 0 := by simpa using hk
    subst this
    rw [zU_ne (by omega), show μ 12 5 + ((0 : Nat) : Int) = μ 12 5 from by omega, zU_eq]
    rfl
  refine sX6_write ⟨fun q => by omega, fun q => ?_⟩
  rcases h2 with rfl | rfl
  · exact Or.inl ⟨h3, by omega, key⟩
  · exact Or.inr ⟨h3, by omega, key⟩
/-- a level, over the level above -/
theorem c_level {dep lev : Int} {sub : Int → zRes} (hd : 1 ≤ d) (hlev : 0 ≤ lev ∧ lev < 4) (hs : p_fit H m sub) (hsub : q_call g (d - 1) 49 [.inr (.inr ((0, 6), 12)), .inl (lev + 1), .inl dep] H m jd sub) : q_call g d 49 [.inr (.inr ((0, 6), 12)), .inl lev, .inl dep] H m jd (p_level H lev sub) := by
  intro μ K hp hK
  have hz : zw (lev + 1) = lev + 1 := zwi (by omega) (by omega)
  have hp6 := hp.2.2.2.2.2
  have f0 := hs (μ 12 6) (by omega)
  have hH := hp.2.2.2.2.1
  have hm := hp.1
  have hmost : (p_most lev : Int) ≤ 40 := by unfold p_most; split <;> decide
  refine sX6_readLevel ⟨fun q => ⟨by omega, ?_⟩, fun q => absurd q (by omega)⟩
  rw [hz]
  refine hsub μ _ hp (fun μ1 hq => ?_)
  simp only [p_level] at hK
  generalize hsr : sub (μ 12 6) = r0 at *
  obtain ⟨a1, c1, ok⟩ := r0
  cases ok
  · refine zb0 (hK μ1 hq)
  · simp only [] at hK hq f0
    -- the loop
    have loop : ∀ (k : Nat) (i : Int) (M : zM) (a2 : Int) (c2 : List Int), i + k = (p_most lev : Int) → 0 ≤ i → q_post jd μ M a2 c2 → μ 12 6 ≤ a2 ∧ a2 ≤ m → (c2.length : Int) ≤ a2 - μ 12 6 → (∀ μ', q_post jd μ μ' (p_more H lev sub k a2 c2).1 (p_more H lev sub k a2 c2).2.1 → K (some (.inl (zB (p_more H lev sub k a2 c2).2.2))) μ') → zT g d mX6_readLevel K 39 [some (.inr (.inr ((0, 6), 12))), some (.inl lev), some (.inl dep), some (.inl (p_most lev : Int)), some (.inl i), none] [] M := by
      intro k
      induction k with
      | zero =>
        intro i M a2 c2 hi h0 hM ha hc hfin
        exact sX6_readLevel_39 ⟨fun q => hfin M hM, fun q => absurd q (by omega)⟩
      | succ k ih =>
        intro i M a2 c2 hi h0 hM ha hc hfin
        have hpM := q_pre_post hp hM ha hc
        have hat : M 12 6 = a2 := hM.2.2.1
        have hlim : M 12 7 = m := hpM.1.1
        refine sX6_readLevel_39 ⟨fun q => absurd q (by omega), fun q => ⟨fun q2 => ?_, fun q2 => ⟨by omega, by omega, c_joining (zi ?_)⟩⟩⟩
        · have hj : p_join (H a2) lev = 0 := by rw [hH a2 (by omega)]; simp [p_join]
          simp only [p_more] at hfin
          rw [if_pos hj] at hfin
          exact hfin M hM
        · rw [p_join_eq hpM (by omega), hat]
          simp only [p_more] at hfin
          refine ⟨fun q3 => ?_, fun q3 => ?_⟩
          · rw [if_neg q3] at hfin
            have fx := hs (a2 + 1) (by omega)
            -- one sign on
            have hM2 : q_post jd μ (zU M 12 6 (zw (a2 + 1))) (a2 + 1) c2 := by
              obtain ⟨g1, g2, g3, g4, g5, g6⟩ := hM
              rw [zwi (x := a2 + 1) (by omega) (by omega)]
              have n12 : ¬ jd = 12 := by have := hp.2.1; omega
              exact ⟨fun j q1 q2 => by rw [zU_off j q1, g1 j q1 q2], fun i q1 q2 => by rw [zU_ne (by omega), g2 i q1 q2], zU_eq, by rw [zU_ne (by omega), g4], fun i hi => by rw [zU_off jd n12, g5 i hi], fun k hk => by rw [zU_off jd n12, g6 k hk]⟩
            have hpM2 := q_pre_post hp hM2 (by omega) (by omega)
            have e6 : zU M 12 6 (zw (a2 + 1)) 12 6 = a2 + 1 := hM2.2.2.1
            rw [hz]
            refine hsub _ _ hpM2 (fun M3 hq3 => ?_)
            rw [e6] at hq3 ⊢
            generalize hsr2 : sub (a2 + 1) = r2 at *
            obtain ⟨a3, c3, ok3⟩ := r2
            have hM3 := q_post_trans hp6.1 hM2 hq3
            cases ok3
            · exact zb0 (hfin M3 hM3)
            · simp only [] at hfin fx hM3
              refine zb1 ?_
              have hpM3 := q_pre_post hp hM3 (by omega) (by rw [List.length_append]; omega)
              have h35 : M3 12 5 < 40 := by
                have := hM3.2.2.2.1
                rw [List.length_append] at this
                have := fx.2.2.2 trivial
                omega
              refine c_write hpM3 h35 (fun M4 hq4 => zn ?_)
              have hM4 := q_post_trans hp6.1 hM3 hq4
              rw [hM3.2.2.1] at hM4
              rw [zwi (x := i + 1) (by omega) (by omega)]
              exact ih (i + 1) M4 a3 (c2 ++ c3 ++ [p_join (H a2) lev]) (by omega) (by omega) hM4 (by omega) (by simp only [List.length_append, List.length_cons, List.length_nil]; omega) hfin
          · rw [if_pos q3] at hfin
            exact hfin M hM
    have z0 : ((p_most lev : Nat) : Int) = if lev = 2 then 1 else 40 := by unfold p_most; split <;> rfl
    refine zb1 ⟨fun q2 => ?_, fun q2 => ?_⟩
    · have := loop (p_most lev) 0 μ1 a1 c1 (by omega) (by omega) hq (by omega) (by omega) hK
      rw [z0, if_neg q2] at this
      exact this
    · have := loop (p_most lev) 0 μ1 a1 c1 (by omega) (by omega) hq (by omega) (by omega) hK
      rw [z0, if_pos q2] at this
      exact this
/-- prefix signs -/
theorem p_thing_ge {sub : Int → zRes} {deep : Bool} (hH : ∀ i, m ≤ i → H i = -1) : ∀ (k k' : Nat) (a : Int), m - a < k → m - a < k' → p_thing H sub deep k a = p_thing H sub deep k' a
  | 0, 0, a, _, _ => rfl
  | 0, k' + 1, a, h, _ => by
    have e := hH a (by omega)
    simp only [p_thing, e]
    rw [if_neg (by omega), if_neg (by omega)]
  | k + 1, 0, a, _, h => by
    have e := hH a (by omega)
    simp only [p_thing, e]
    rw [if_neg (by omega), if_neg (by omega)]
  | k + 1, k' + 1, a, h, h' => by
    simp only [p_thing]
    rw [p_thing_ge hH k k' (a + 1) (by omega) (by omega)]
theorem c_readThing {dep : Int} {sub : Int → zRes} {deep : Bool} (hd : 2 ≤ d) (hs : p_fit H m sub) (hsub : q_call g (d - 1) 51 [.inr (.inr ((0, 6), 12)), .inl dep] H m jd (p_core H sub deep)) : q_call g d 50 [.inr (.inr ((0, 6), 12)), .inl dep] H m jd (p_thing H sub deep 41) := by
  intro μ K hp hK
  have hp6 := hp.2.2.2.2.2
  have hm := hp.1
  have hH := hp.2.2.2.2.1
  have cfit : p_fit H m (p_core H sub deep) := p_core_fit hH hs
  refine sX6_readThing ?_
  -- behind the core: signs are written from the last to the first
  have back : ∀ (k : Nat) (i : Int) (M : zM) (a2 : Int) (c2 : List Int), i + 1 = μ 12 6 + k → q_post jd μ M a2 c2 → i + 1 ≤ a2 ∧ a2 ≤ m → (c2.length : Int) ≤ a2 - (i + 1) → (∀ j, μ 12 6 ≤ j ∧ j ≤ i → H j = 33 ∨ H j = 45) → (∀ μ', q_post jd μ μ' a2 (c2 ++ (List.range k).map (fun t : Nat => if H (i - (t : Int)) = 33 then -9 else -10)) → K (some (.inl 1)) μ') → zT g d mX6_readThing K 88 [some (.inr (.inr ((0, 6), 12))), none, some (.inl (μ 12 6)), none, some (.inl i)] [] M := by
    intro k
    induction k with
    | zero =>
      intro i M a2 c2 hi hM ha hc hpre hfin
      refine sX6_readThing_88 ⟨fun q => hfin M ?_, fun q => absurd q (by omega)⟩
      simpa using hM
    | succ k ih =>
      intro i M a2 c2 hi hM ha hc hpre hfin
      have hpM := q_pre_post hp hM (by omega) (by omega)
      have h35 : M 12 5 < 40 := by
        have := hM.2.2.2.1
        omega
      have hpi := hpre i (by omega)
      have im : i < m := by
        by_cases q : m ≤ i
        · have := hH i q; omega
        · omega
      have zi1 : zw (i + -1) = i - 1 := by rw [zwi (x := i + -1) (by omega) (by omega)]; omega
      have e13 : M 13 i = 33 ↔ H i = 33 := q_at hpM (by omega) 33 (by omega)
      have lst : ∀ c2 : List Int, c2 ++ (List.range (k + 1)).map (fun t : Nat => if H (i - (t : Int)) = 33 then (-9 : Int) else -10) = c2 ++ [if H i = 33 then (-9 : Int) else -10] ++ (List.range k).map (fun t : Nat => if H (i - 1 - (t : Int)) = 33 then (-9 : Int) else -10) := by
        intro c2
        rw [List.range_succ_eq_map, List.map_cons, List.map_map, List.append_assoc]
        congr 1
        show [_] ++ _ = [_] ++ _
        congr 1
        · simp
        · apply List.map_congr_left
          intro t _
          simp only [Function.comp]
          rw [show i - ((Nat.succ t : Nat) : Int) = i - 1 - (t : Int) from by omega]
      refine sX6_readThing_88 ⟨fun q => absurd q (by omega), fun q => ⟨by omega, fun q2 => ⟨by omega, c_write hpM h35 (fun M4 hq4 => zn ?_)⟩, fun q2 => ⟨by omega, c_write hpM h35 (fun M4 hq4 => zn ?_)⟩⟩⟩
      · have hM4 := q_post_trans hp6.1 hM hq4
        rw [hM.2.2.1] at hM4
        rw [zi1]
        refine ih (i - 1) M4 a2 (c2 ++ [-10]) (by omega) hM4 (by omega) (by rw [List.length_append, List.length_cons, List.length_nil]; omega) (fun j hj => hpre j (by omega)) (fun μ' hq => hfin μ' ?_)
        rw [lst c2, if_neg (by rw [← e13]; exact q2)]
        exact hq
      · have hM4 := q_post_trans hp6.1 hM hq4
        rw [hM.2.2.1] at hM4
        rw [zi1]
        refine ih (i - 1) M4 a2 (c2 ++ [-9]) (by omega) hM4 (by omega) (by rw [List.length_append, List.length_cons, List.length_nil]; omega) (fun j hj => hpre j (by omega)) (fun μ' hq => hfin μ' ?_)
        rw [lst c2, if_pos (by rw [← e13]; exact q2)]
        exact hq
  -- forward over the signs
  have fwd : ∀ (k : Nat) (n : Nat) (M : zM), (m - (μ 12 6 + n)) < k → μ 12 6 + n ≤ m → q_post jd μ M (μ 12 6 + n) [] → (∀ j, μ 12 6 ≤ j ∧ j < μ 12 6 + n → H j = 33 ∨ H j = 45) → (∀ μ', q_post jd μ μ' (p_thing H sub deep k (μ 12 6 + n)).1 (match p_thing H sub deep k (μ 12 6 + n) with
      | (_, c, true) => c ++ (List.range n).map (fun t : Nat => if H (μ 12 6 + n - 1 - (t : Int)) = 33 then -9 else -10)
      | (_, c, false) => c) → K (some (.inl (zB (p_thing H sub deep k (μ 12 6 + n)).2.2))) μ') → zT g d mX6_readThing K 5 [some (.inr (.inr ((0, 6), 12))), some (.inl dep), some (.inl (μ 12 6)), none, none] [] M := by
    intro k
    induction k with
    | zero => intro n M hk hn hM hpre hfin; omega
    | succ k ih =>
      intro n M hk hn hM hpre hfin
      have hpM := q_pre_post hp hM (by omega) (by simp; omega)
      have hat : M 12 6 = μ 12 6 + n := hM.2.2.1
      have hlim : M 12 7 = m := hpM.1.1
      have n12 : ¬ jd = 12 := by have := hp.2.1; omega
      have on : μ 12 6 + n < m → q_post jd μ (zU M 12 6 (zw (M 12 6 + 1))) (μ 12 6 + (n + 1 : Nat)) [] := by
        intro hlt
        obtain ⟨g1, g2, g3, g4, g5, g6⟩ := hM
        rw [hat, zwi (x := μ 12 6 + (n : Int) + 1) (by omega) (by omega)]
        exact ⟨fun j q1 q2 => by rw [zU_off j q1, g1 j q1 q2], fun i q1 q2 => by rw [zU_ne (by omega), g2 i q1 q2], by rw [zU_eq]; omega, by rw [zU_ne (by omega), g4], fun i hi => by rw [zU_off jd n12, g5 i hi], fun k hk => by simp at hk⟩
      -- the next sign is a prefix
      have stepon : ∀ (x : Int), (H (μ 12 6 + n) = 33 ∧ x = -9 ∨ H (μ 12 6 + n) = 45 ∧ x = -10) → μ 12 6 + n < m → zT g d mX6_readThing K 5 [some (.inr (.inr ((0, 6), 12))), some (.inl dep), some (.inl (μ 12 6)), none, none] [] (zU M 12 6 (zw (M 12 6 + 1))) := by
        intro x hx hlt
        have hsp : p_thing H sub deep (k + 1) (μ 12 6 + n) = p_app x (p_thing H sub deep k (μ 12 6 + (n + 1 : Nat))) := by
          have ea : μ 12 6 + (n : Int) + 1 = μ 12 6 + ((n + 1 : Nat) : Int) := by omega
          simp only [p_thing]
          rcases hx with ⟨h1, rfl⟩ | ⟨h1, rfl⟩
          · rw [if_pos h1, ea]
          · rw [if_neg (by omega), if_pos h1, ea]
        refine ih (n + 1) _ (by omega) (by omega) (on hlt) (fun j hj => ?_) (fun μ' hq => ?_)
        · by_cases q : j = μ 12 6 + n
          · subst q; rcases hx with ⟨h1, _⟩ | ⟨h1, _⟩
            · exact Or.inl h1
            · exact Or.inr h1
          · exact hpre j (by omega)
        · have := hfin μ'
          rw [hsp] at this
          rw [p_app_1, p_app_3] at this
          generalize p_thing H sub deep k (μ 12 6 + (n + 1 : Nat)) = res at *
          obtain ⟨a3, c3, ok3⟩ := res
          cases ok3
          · exact this hq
          · simp only [p_app] at this
            refine this ?_
            simp only [] at hq
            rw [List.range_succ_eq_map, List.map_cons, List.map_map] at hq
            have e : (c3 ++ [x] ++ (List.range n).map (fun t : Nat => if H (μ 12 6 + n - 1 - (t : Int)) = 33 then (-9 : Int) else -10)) = (c3 ++ (if H (μ 12 6 + ((n + 1 : Nat) : Int) - 1 - ((0 : Nat) : Int)) = 33 then (-9 : Int) else -10) :: (List.range n).map ((fun t : Nat => if H (μ 12 6 + ((n + 1 : Nat) : Int) - 1 - (t : Int)) = 33 then (-9 : Int) else -10) ∘ Nat.succ)) := by
              rw [List.append_assoc]
              congr 1
              show x :: _ = _ :: _
              congr 1
              · rw [show μ 12 6 + ((n + 1 : Nat) : Int) - 1 - ((0 : Nat) : Int) = μ 12 6 + n from by omega]
                rcases hx with ⟨h1, rfl⟩ | ⟨h1, rfl⟩
                · rw [if_pos h1]
                · rw [if_neg (by omega)]
              · apply List.map_congr_left
                intro t _
                simp only [Function.comp]
                rw [show μ 12 6 + ((n + 1 : Nat) : Int) - 1 - ((Nat.succ t : Nat) : Int) = μ 12 6 + (n : Int) - 1 - (t : Int) from by omega]
            rw [e]
            exact hq
      -- here is none
      have core : ¬ H (μ 12 6 + n) = 33 → ¬ H (μ 12 6 + n) = 45 → (p_thing H sub deep (k + 1) (μ 12 6 + n) = p_core H sub deep (μ 12 6 + n)) := by
        intro h1 h2
        simp only [p_thing]
        rw [if_neg h1, if_neg h2]
      refine sX6_readThing_5 ⟨fun q => ?_, fun q => ⟨by omega, fun q2 => stepon (-9) (Or.inl ⟨by rw [← hat]; exact (q_at hpM (by omega) 33 (by omega)).1 q2, rfl⟩) (by omega), fun q2 => ⟨fun q3 => ⟨by omega, ?_⟩, fun q3 => stepon (-10) (Or.inr ⟨by rw [← hat]; exact (q_at hpM (by omega) 45 (by omega)).1 q3, rfl⟩) (by omega)⟩⟩⟩
      · have e1 := hH (μ 12 6 + n) (by omega)
        have := hfin M
        rw [core (by omega) (by omega)] at this
        simp only [p_core, e1] at this
        rw [if_neg (by omega), if_neg (by omega), if_pos (by simp [p_letter])] at this
        exact this hM
      · have n33 : ¬ H (μ 12 6 + n) = 33 := by rw [← hat]; intro h9; exact q2 ((q_at hpM (by omega) 33 (by omega)).2 h9)
        have n45 : ¬ H (μ 12 6 + n) = 45 := by rw [← hat]; intro h9; exact q3 ((q_at hpM (by omega) 45 (by omega)).2 h9)
        rw [core n33 n45] at hfin
        have cf := cfit (μ 12 6 + n) (by omega)
        refine hsub M _ hpM (fun M2 hq2 => ?_)
        rw [hat] at hq2 ⊢
        have hM2 := q_post_trans hp6.1 hM hq2
        rw [List.nil_append] at hM2
        generalize p_core H sub deep (μ 12 6 + n) = res at *
        obtain ⟨a3, c3, ok3⟩ := res
        cases ok3
        · exact zb0 (hfin M2 hM2)
        · simp only [] at hfin hM2 cf
          refine zb1 ?_
          rw [zwi (x := μ 12 6 + (n : Int) - 1) (by omega) (by omega)]
          exact back n (μ 12 6 + n - 1) M2 a3 c3 (by omega) hM2 (by omega) (by omega) (fun j hj => hpre j (by omega)) hfin
  have := fwd 41 0 μ (by omega) (by omega) (by rw [show μ 12 6 + ((0 : Nat) : Int) = μ 12 6 from by omega]; exact q_post_refl jd μ) (fun j hj => by omega)
  rw [show μ 12 6 + ((0 : Nat) : Int) = μ 12 6 from by omega] at this
  refine this (fun μ' hq => hK μ' ?_)
  generalize p_thing H sub deep 41 (μ 12 6) = res at *
  obtain ⟨a3, c3, ok3⟩ := res
  cases ok3
  · exact hq
  · simpa using hq
end
