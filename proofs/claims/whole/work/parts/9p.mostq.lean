-- needs 9o
/-! most, fails: rows as functions of the trains; what the class's table says -/
def su (F : Nat → Int) : Nat → Nat → Int
  | 0, _ => 0
  | k + 1, lo => F lo + su F k (lo + 1)
theorem su_congr {F G : Nat → Int} : ∀ (k lo : Nat), (∀ t, lo ≤ t → t < lo + k → F t = G t) → su F k lo = su G k lo
  | 0, _, _ => rfl
  | k + 1, lo, h => by
    show F lo + su F k (lo + 1) = G lo + su G k (lo + 1)
    rw [h lo (by omega) (by omega), su_congr k (lo + 1) (fun t h1 h2 => h t (by omega) (by omega))]
theorem su_snoc {F : Nat → Int} : ∀ (k lo : Nat), su F (k + 1) lo = su F k lo + F (lo + k)
  | 0, lo => by simp [su]
  | k + 1, lo => by
    show F lo + su F (k + 1) (lo + 1) = F lo + su F k (lo + 1) + F (lo + (k + 1))
    rw [su_snoc k (lo + 1), show lo + 1 + k = lo + (k + 1) from by omega]
    omega
theorem su_upd {F G : Nat → Int} {t : Nat} (h : ∀ t', ¬ t' = t → G t' = F t') : ∀ (k lo : Nat), lo ≤ t → t < lo + k → su G k lo = su F k lo - F t + G t
  | 0, lo, h1, h2 => by omega
  | k + 1, lo, h1, h2 => by
    show G lo + su G k (lo + 1) = F lo + su F k (lo + 1) - F t + G t
    by_cases q : lo = t
    · subst q
      rw [su_congr (F := G) (G := F) k (lo + 1) (fun t' a b => h t' (by omega))]
      omega
    · rw [h lo q, su_upd h k (lo + 1) (by omega) (by omega)]
      omega
theorem su_b {F : Nat → Int} {a b : Int} : ∀ (k lo : Nat), (∀ t, lo ≤ t → t < lo + k → a ≤ F t ∧ F t ≤ b) → a * (k : Int) ≤ su F k lo ∧ su F k lo ≤ b * (k : Int)
  | 0, _, _ => by simp [su]
  | k + 1, lo, h => by
    have ih := su_b k (lo + 1) (fun t h1 h2 => h t (by omega) (by omega))
    have h0 := h lo (by omega) (by omega)
    show a * ((k + 1 : Nat) : Int) ≤ F lo + su F k (lo + 1) ∧ F lo + su F k (lo + 1) ≤ b * ((k + 1 : Nat) : Int)
    rw [show ((k + 1 : Nat) : Int) = (k : Int) + 1 from by omega, Int.mul_add, Int.mul_add, Int.mul_one, Int.mul_one]
    omega
theorem su_lin {F G H : Nat → Int} {c d : Int} (h : ∀ t, H t = c * F t + d * G t) : ∀ (k lo : Nat), su H k lo = c * su F k lo + d * su G k lo
  | 0, _ => by simp [su]
  | k + 1, lo => by
    show H lo + su H k (lo + 1) = c * (F lo + su F k (lo + 1)) + d * (G lo + su G k (lo + 1))
    rw [h lo, su_lin h k (lo + 1), Int.mul_add, Int.mul_add]
    omega
def mf_sf (n : Nat) (a : Nat → Int) : Nat → List Int
  | 0 => []
  | k + 1 => a (n - (k + 1)) :: mf_sf n a k
theorem mf_sf_c {n : Nat} {a b : Nat → Int} : ∀ k : Nat, k ≤ n → (∀ t, n - k ≤ t → t < n → a t = b t) → mf_sf n a k = mf_sf n b k
  | 0, _, _ => rfl
  | k + 1, hk, h => by
    show a (n - (k + 1)) :: mf_sf n a k = b (n - (k + 1)) :: mf_sf n b k
    rw [h _ (by omega) (by omega), mf_sf_c k (by omega) (fun t h1 h2 => h t (by omega) h2)]
theorem mf_v_sf {P : zMf} {a : Nat → Int} : ∀ k : Nat, k ≤ mf_n P → mf_v P k (mf_sf (mf_n P) a k) = su (fun t => mf_w P t (a t)) k (mf_n P - k)
  | 0, _ => rfl
  | k + 1, hk => by
    show mf_w P (mf_n P - (k + 1)) (a (mf_n P - (k + 1))) + mf_v P k (mf_sf (mf_n P) a k) = mf_w P (mf_n P - (k + 1)) (a (mf_n P - (k + 1))) + su (fun t => mf_w P t (a t)) k (mf_n P - (k + 1) + 1)
    rw [mf_v_sf k (by omega), show mf_n P - (k + 1) + 1 = mf_n P - k from by omega]
theorem mf_cd_sf {P : zMf} {a : Nat → Int} (h8 : mf_n P ≤ 8) : ∀ k : Nat, k ≤ mf_n P → mf_cd P k (mf_sf (mf_n P) a k) = su (fun t => (a t + 1) * (13 : Int) ^ (7 - t)) k (mf_n P - k)
  | 0, _ => rfl
  | k + 1, hk => by
    show (a (mf_n P - (k + 1)) + 1) * (13 : Int) ^ (k + (8 - mf_n P)) + mf_cd P k (mf_sf (mf_n P) a k) = (a (mf_n P - (k + 1)) + 1) * (13 : Int) ^ (7 - (mf_n P - (k + 1))) + su (fun t => (a t + 1) * (13 : Int) ^ (7 - t)) k (mf_n P - (k + 1) + 1)
    rw [mf_cd_sf h8 k (by omega), show mf_n P - (k + 1) + 1 = mf_n P - k from by omega, show 7 - (mf_n P - (k + 1)) = k + (8 - mf_n P) from by omega]
/-- engines below j to the trains -/
def mf_F (P : zMf) (j : Nat) (a : Nat → Int) : Prop := (∀ t, t < mf_n P → a t = -1 ∨ ∃ e : Nat, e < j ∧ a t = (e : Int) ∧ mf_k P t e = true) ∧ ∀ t t', t < mf_n P → t' < mf_n P → ¬ a t = -1 → a t = a t' → t = t'
theorem mf_FV {P : zMf} {a : Nat → Int} : ∀ (k s : Nat), k ≤ mf_n P → (∀ t, mf_n P - k ≤ t → t < mf_n P → a t = -1 ∨ ∃ e : Nat, e < mf_E P ∧ a t = (e : Int) ∧ s.testBit e = false ∧ mf_k P t e = true) → (∀ t t', t < mf_n P → t' < mf_n P → ¬ a t = -1 → a t = a t' → t = t') → mf_V P k s (mf_sf (mf_n P) a k)
  | 0, _, _, _, _ => rfl
  | k + 1, s, hk, h1, h2 => by
    show (a (mf_n P - (k + 1)) = -1 ∧ mf_V P k s (mf_sf (mf_n P) a k)) ∨ ∃ e : Nat, e < mf_E P ∧ a (mf_n P - (k + 1)) = (e : Int) ∧ s.testBit e = false ∧ mf_k P (mf_n P - (k + 1)) e = true ∧ mf_V P k (s ||| 2 ^ e) (mf_sf (mf_n P) a k)
    rcases h1 (mf_n P - (k + 1)) (by omega) (by omega) with h | ⟨e, he, h, hs, hk'⟩
    · exact Or.inl ⟨h, mf_FV k s (by omega) (fun t a b => h1 t (by omega) b) h2⟩
    · refine Or.inr ⟨e, he, h, hs, hk', mf_FV k (s ||| 2 ^ e) (by omega) (fun t q b => ?_) h2⟩
      rcases h1 t (by omega) b with g | ⟨e', he', g, gs, gk⟩
      · exact Or.inl g
      · refine Or.inr ⟨e', he', g, ?_, gk⟩
        rw [or_test, gs, Bool.false_or]
        refine decide_eq_false (fun hh => ?_)
        have := h2 (mf_n P - (k + 1)) t (by omega) b (by omega) (by rw [h, g, hh])
        omega
theorem mf_VF {P : zMf} : ∀ (k s : Nat) (r : List Int), k ≤ mf_n P → mf_V P k s r → ∃ a : Nat → Int, mf_sf (mf_n P) a k = r ∧ (∀ t, mf_n P - k ≤ t → t < mf_n P → a t = -1 ∨ ∃ e : Nat, e < mf_E P ∧ a t = (e : Int) ∧ s.testBit e = false ∧ mf_k P t e = true) ∧ ∀ t t', mf_n P - k ≤ t → t < mf_n P → mf_n P - k ≤ t' → t' < mf_n P → ¬ a t = -1 → a t = a t' → t = t'
  | 0, s, r, _, h => ⟨fun _ => -1, by have h : r = [] := h; rw [h]; rfl, fun t a b => by omega, fun t t' a b => by omega⟩
  | k + 1, s, [], _, h => h.elim
  | k + 1, s, c :: r, hk, h => by
    have key : ∃ s' : Nat, mf_V P k s' r ∧ (c = -1 ∧ s' = s ∨ ∃ e : Nat, e < mf_E P ∧ c = (e : Int) ∧ s.testBit e = false ∧ mf_k P (mf_n P - (k + 1)) e = true ∧ s' = s ||| 2 ^ e) := by
      rcases h with ⟨h1, h2⟩ | ⟨e, he, h1, h2, h3, h4⟩
      · exact ⟨s, h2, Or.inl ⟨h1, rfl⟩⟩
      · exact ⟨_, h4, Or.inr ⟨e, he, h1, h2, h3, rfl⟩⟩
    obtain ⟨s', hV, hc⟩ := key
    obtain ⟨a', e1, e2, e3⟩ := mf_VF k s' r (by omega) hV
    have low : ∀ e : Nat, s'.testBit e = false → s.testBit e = false := by
      intro e he
      rcases hc with ⟨_, q⟩ | ⟨e0, _, _, _, _, q⟩
      · rw [← q]; exact he
      · rw [q, or_test] at he
        cases hb : s.testBit e
        · rfl
        · rw [hb] at he; cases he
    refine ⟨fun t => if t = mf_n P - (k + 1) then c else a' t, ?_, fun t q1 q2 => ?_, fun t t' q1 q2 q3 q4 hne he => ?_⟩
    · show (if mf_n P - (k + 1) = mf_n P - (k + 1) then c else a' (mf_n P - (k + 1))) :: mf_sf (mf_n P) (fun t => if t = mf_n P - (k + 1) then c else a' t) k = c :: r
      rw [if_pos rfl, mf_sf_c (b := a') k (by omega) (fun t h1 h2 => if_neg (by omega)), e1]
    · simp only []
      by_cases q : t = mf_n P - (k + 1)
      · rw [if_pos q]
        rcases hc with ⟨q5, _⟩ | ⟨e0, g1, g2, g3, g4, _⟩
        · exact Or.inl q5
        · exact Or.inr ⟨e0, g1, g2, g3, by rw [q]; exact g4⟩
      · rw [if_neg q]
        rcases e2 t (by omega) q2 with g | ⟨e, g1, g2, g3, g4⟩
        · exact Or.inl g
        · exact Or.inr ⟨e, g1, g2, low e g3, g4⟩
    · simp only [] at hne he
      have cross : ∀ u, mf_n P - k ≤ u → u < mf_n P → ¬ c = -1 → c = a' u → False := by
        intro u u1 u2 cn ce
        rcases hc with ⟨q5, _⟩ | ⟨e0, _, g2, _, _, g5⟩
        · exact cn q5
        · rcases e2 u u1 u2 with g | ⟨e, _, h2, h3, _⟩
          · omega
          · obtain rfl : e = e0 := by omega
            rw [g5, or_test] at h3
            simp at h3
      by_cases q : t = mf_n P - (k + 1)
      · rw [if_pos q] at hne he
        by_cases q' : t' = mf_n P - (k + 1)
        · omega
        · rw [if_neg q'] at he
          exact (cross t' (by omega) q4 hne he).elim
      · rw [if_neg q] at hne he
        by_cases q' : t' = mf_n P - (k + 1)
        · rw [if_pos q'] at he
          exact (cross t (by omega) q2 (by omega) he.symm).elim
        · rw [if_neg q'] at he
          exact e3 t t' (by omega) q2 (by omega) q4 hne he
def mf_ct (P : zMf) (t : Nat) (c : Int) : Int := (c + 1) * (13 : Int) ^ (7 - t) + 815730721 * mf_p P t c
def mf_cost (P : zMf) (a : Nat → Int) : Int := su (fun t => mf_ct P t (a t)) (mf_n P) 0
def mf_cnt (P : zMf) (a : Nat → Int) : Int := su (fun t => if a t = -1 then 0 else 1) (mf_n P) 0
def mf_par (P : zMf) (a : Nat → Int) : Int := su (fun t => mf_p P t (a t)) (mf_n P) 0
def mf_cod (P : zMf) (a : Nat → Int) : Int := su (fun t => (a t + 1) * (13 : Int) ^ (7 - t)) (mf_n P) 0
theorem mf_p_b (P : zMf) (t : Nat) (c : Int) : 0 ≤ mf_p P t c ∧ mf_p P t c ≤ 1 := by
  unfold mf_p
  split <;> omega
theorem mf_cost_eq (P : zMf) (a : Nat → Int) : mf_cost P a = mf_cod P a + 815730721 * mf_par P a := by
  have := su_lin (F := fun t => (a t + 1) * (13 : Int) ^ (7 - t)) (G := fun t => mf_p P t (a t)) (H := fun t => mf_ct P t (a t)) (c := 1) (d := 815730721) (fun t => by unfold mf_ct; omega) (mf_n P) 0
  unfold mf_cost mf_cod mf_par
  omega
theorem mf_val_eq (P : zMf) (a : Nat → Int) : su (fun t => mf_w P t (a t)) (mf_n P) 0 = 16 * mf_cnt P a - mf_par P a := by
  have := su_lin (F := fun t => if a t = -1 then 0 else 1) (G := fun t => mf_p P t (a t)) (H := fun t => mf_w P t (a t)) (c := 16) (d := -1) (fun t => by unfold mf_w; split <;> omega) (mf_n P) 0
  unfold mf_cnt mf_par
  omega
theorem mf_par_b (P : zMf) (a : Nat → Int) : 0 ≤ mf_par P a ∧ mf_par P a ≤ (mf_n P : Int) := by
  have := su_b (F := fun t => mf_p P t (a t)) (a := 0) (b := 1) (mf_n P) 0 (fun t _ _ => mf_p_b P t (a t))
  unfold mf_par
  omega
/-- the reference's row is the best -/
theorem mf_opt {P : zMf} (h8 : mf_n P ≤ 8) (hE : mf_E P ≤ 12) : ∃ a0, mf_F P (mf_E P) a0 ∧ mf_sf (mf_n P) a0 (mf_n P) = mf_R P (mf_n P) 0 ∧ mf_W P (mf_n P) 0 = 16 * mf_cnt P a0 - mf_par P a0 ∧ (0 ≤ mf_cod P a0 ∧ mf_cod P a0 < 815730721) ∧ ∀ a, mf_F P (mf_E P) a → (0 ≤ mf_cod P a ∧ mf_cod P a < 815730721) ∧ mf_cnt P a ≤ mf_cnt P a0 ∧ (mf_cnt P a = mf_cnt P a0 → mf_cost P a0 ≤ mf_cost P a) := by
  obtain ⟨v1, v2⟩ := mf_A2 P (mf_n P) 0
  obtain ⟨a0, s0, f1, f2⟩ := mf_VF (mf_n P) 0 _ (Nat.le_refl _) v1
  rw [Nat.sub_self] at f1 f2
  have e0 : mf_W P (mf_n P) 0 = 16 * mf_cnt P a0 - mf_par P a0 := by
    rw [← v2, ← s0, mf_v_sf (mf_n P) (Nat.le_refl _), Nat.sub_self]
    exact mf_val_eq P a0
  have p8 : (13 : Int) ^ (mf_n P + (8 - mf_n P)) = 815730721 := by
    rw [show mf_n P + (8 - mf_n P) = 8 from by omega]
    decide
  have cb : ∀ a, mf_F P (mf_E P) a → mf_V P (mf_n P) 0 (mf_sf (mf_n P) a (mf_n P)) := fun a ha => mf_FV (mf_n P) 0 (Nat.le_refl _) (fun t _ ht => by
    rcases ha.1 t ht with g | ⟨e, g1, g2, g3⟩
    · exact Or.inl g
    · exact Or.inr ⟨e, g1, g2, Nat.zero_testBit e, g3⟩) ha.2
  have cd : ∀ a, mf_cd P (mf_n P) (mf_sf (mf_n P) a (mf_n P)) = mf_cod P a := fun a => by
    rw [mf_cd_sf h8 (mf_n P) (Nat.le_refl _), Nat.sub_self]
    rfl
  have F0 : mf_F P (mf_E P) a0 := ⟨fun t ht => by
    rcases f1 t (by omega) ht with g | ⟨e, g1, g2, _, g4⟩
    · exact Or.inl g
    · exact Or.inr ⟨e, g1, g2, g4⟩, fun t t' ht ht' => f2 t t' (by omega) ht (by omega) ht'⟩
  have bnd : ∀ a, mf_F P (mf_E P) a → 0 ≤ mf_cod P a ∧ mf_cod P a < 815730721 := fun a ha => by
    have := mf_cd_b P hE _ _ _ (cb a ha)
    rw [cd a, p8] at this
    exact this
  refine ⟨a0, F0, s0, e0, bnd a0 F0, fun a ha => ⟨bnd a ha, ?_⟩⟩
  have A1 := mf_A1 P _ _ _ (cb a ha)
  have va : mf_v P (mf_n P) (mf_sf (mf_n P) a (mf_n P)) = 16 * mf_cnt P a - mf_par P a := by
    rw [mf_v_sf (mf_n P) (Nat.le_refl _), Nat.sub_self]
    exact mf_val_eq P a
  have pa := mf_par_b P a
  have p0 := mf_par_b P a0
  have ba := bnd a ha
  have b0 := bnd a0 F0
  rw [va] at A1
  refine ⟨by omega, fun q => ?_⟩
  rw [mf_cost_eq, mf_cost_eq]
  by_cases q2 : mf_par P a0 = mf_par P a
  · have A3 := mf_A3 P hE _ _ _ (cb a ha) (by rw [va]; omega)
    rw [← s0, cd, cd] at A3
    omega
  · omega
/-! the class's table, engine by engine -/
def mf_S (P : zMf) (a : Nat → Int) (h : Nat) : Prop := h < 2 ^ mf_n P ∧ ∀ t, t < mf_n P → (h.testBit t = true ↔ ¬ a t = -1)
def mf_I (P : zMf) (j : Nat) (b : Nat → Int) : Prop := (∀ a h, mf_F P j a → mf_S P a h → b h ≤ mf_cost P a) ∧ ∀ h, h < 2 ^ mf_n P → b h < 1152921504606846976 → ∃ a, mf_F P j a ∧ mf_S P a h ∧ mf_cost P a = b h
def mf_wt (P : zMf) (j t : Nat) : Int := mf_ct P t (j : Int) - mf_ct P t (-1)
def mf_st (P : zMf) (j : Nat) (b : Nat → Int) (h h' t : Nat) : Prop := h' < 2 ^ mf_n P ∧ t < mf_n P ∧ mf_k P t j = true ∧ h'.testBit t = false ∧ h = h' ||| 2 ^ t ∧ b h' < 1152921504606846976
def mf_rel (P : zMf) (j : Nat) (pr : Nat → Nat → Prop) (b b' : Nat → Int) : Prop := ∀ h, h < 2 ^ mf_n P → b' h ≤ b h ∧ (∀ h' t, pr h' t → mf_st P j b h h' t → b' h ≤ b h' + mf_wt P j t) ∧ (b' h = b h ∨ ∃ h' t, pr h' t ∧ mf_st P j b h h' t ∧ b' h = b h' + mf_wt P j t)
theorem mf_cost_u {P : zMf} {a : Nat → Int} {t : Nat} {c : Int} (ht : t < mf_n P) : mf_cost P (fun x => if x = t then c else a x) = mf_cost P a - mf_ct P t (a t) + mf_ct P t c := by
  have := su_upd (F := fun x => mf_ct P x (a x)) (G := fun x => mf_ct P x (if x = t then c else a x)) (t := t) (fun t' q => by rw [if_neg q]) (mf_n P) 0 (by omega) (by omega)
  simp only [if_pos rfl] at this
  exact this
theorem mf_I_step {P : zMf} {j : Nat} {b b' : Nat → Int} (hI : mf_I P j b) (hr : mf_rel P j (fun _ _ => True) b b') (h8 : ∀ a, mf_F P j a → mf_cost P a < 1152921504606846976) : mf_I P (j + 1) b' := by
  obtain ⟨i1, i2⟩ := hI
  refine ⟨fun a h ha hS => ?_, fun h hh hb => ?_⟩
  · obtain ⟨r1, r2, _⟩ := hr h hS.1
    by_cases q : ∃ t, t < mf_n P ∧ a t = (j : Int)
    · obtain ⟨t, ht, ej⟩ := q
      have ok : mf_k P t j = true := by
        rcases ha.1 t ht with g | ⟨e, _, g2, g3⟩
        · omega
        · obtain rfl : e = j := by omega
          exact g3
      have Fa' : mf_F P j (fun x => if x = t then -1 else a x) := by
        refine ⟨fun u hu => ?_, fun u u' hu hu' hne he => ?_⟩
        · simp only []
          by_cases q : u = t
          · exact Or.inl (if_pos q)
          · rw [if_neg q]
            rcases ha.1 u hu with g | ⟨e, g1, g2, g3⟩
            · exact Or.inl g
            · refine Or.inr ⟨e, ?_, g2, g3⟩
              rcases Nat.lt_or_ge e j with q5 | q5
              · exact q5
              · obtain rfl : e = j := by omega
                exact absurd (ha.2 u t hu ht (by omega) (by omega)) q
        · simp only [] at hne he
          by_cases q : u = t
          · rw [if_pos q] at hne
            exact absurd rfl hne
          · rw [if_neg q] at hne he
            by_cases q' : u' = t
            · rw [if_pos q'] at he
              exact absurd he hne
            · rw [if_neg q'] at he
              exact ha.2 u u' hu hu' hne he
      have htb : h.testBit t = true := (hS.2 t ht).2 (by omega)
      have hS' : mf_S P (fun x => if x = t then -1 else a x) (h ^^^ 2 ^ t) := by
        have t2 : 2 ^ t < 2 ^ mf_n P := Nat.pow_lt_pow_right (by omega) ht
        refine ⟨Nat.xor_lt_two_pow hS.1 t2, fun u hu => ?_⟩
        rw [Nat.testBit_xor, Nat.testBit_two_pow]
        by_cases q : t = u
        · subst q
          simp [htb]
        · have := hS.2 u hu
          simp only []
          rw [decide_eq_false q, if_neg (by omega), Bool.xor_false]
          exact this
      have hst : mf_st P j b h (h ^^^ 2 ^ t) t := by
        refine ⟨hS'.1, ht, ok, ?_, ?_, ?_⟩
        · rw [Nat.testBit_xor, Nat.testBit_two_pow, htb]
          simp
        · apply Nat.eq_of_testBit_eq
          intro u
          rw [or_test, Nat.testBit_xor, Nat.testBit_two_pow]
          by_cases q : t = u
          · subst q
            rw [htb]
            simp
          · rw [decide_eq_false q]
            simp
        · exact Int.lt_of_le_of_lt (i1 _ _ Fa' hS') (h8 _ Fa')
      have a1 := r2 _ _ trivial hst
      have a2 := i1 _ _ Fa' hS'
      rw [mf_cost_u ht, ej] at a2
      unfold mf_wt at a1
      omega
    · have Fa : mf_F P j a := ⟨fun u hu => by
        rcases ha.1 u hu with g | ⟨e, g1, g2, g3⟩
        · exact Or.inl g
        · refine Or.inr ⟨e, ?_, g2, g3⟩
          rcases Nat.lt_or_ge e j with q5 | q5
          · exact q5
          · obtain rfl : e = j := by omega
            exact absurd ⟨u, hu, g2⟩ q, ha.2⟩
      have := i1 a h Fa hS
      omega
  · obtain ⟨_, _, r3⟩ := hr h hh
    rcases r3 with r3 | ⟨h', t, _, ⟨g1, g2, g3, g4, g5, g6⟩, r3⟩
    · rw [r3] at hb ⊢
      obtain ⟨a, f1, f2, f3⟩ := i2 h hh hb
      exact ⟨a, ⟨fun u hu => by
        rcases f1.1 u hu with g | ⟨e, g1, g2, g3⟩
        · exact Or.inl g
        · exact Or.inr ⟨e, by omega, g2, g3⟩, f1.2⟩, f2, f3⟩
    · obtain ⟨a, f1, f2, f3⟩ := i2 h' g1 g6
      have at1 : a t = -1 := by
        by_cases q : a t = -1
        · exact q
        · have := (f2.2 t g2).2 q
          rw [g4] at this
          cases this
      refine ⟨fun x => if x = t then (j : Int) else a x, ⟨fun u hu => ?_, fun u u' hu hu' hne he => ?_⟩, ⟨hh, fun u hu => ?_⟩, ?_⟩
      · simp only []
        by_cases q : u = t
        · rw [if_pos q]
          exact Or.inr ⟨j, by omega, rfl, by rw [q]; exact g3⟩
        · rw [if_neg q]
          rcases f1.1 u hu with g | ⟨e, k1, k2, k3⟩
          · exact Or.inl g
          · exact Or.inr ⟨e, by omega, k2, k3⟩
      · simp only [] at hne he
        have nj : ∀ v, v < mf_n P → ¬ a v = (j : Int) := fun v hv e => by
          rcases f1.1 v hv with g | ⟨e', k1, k2, k3⟩
          · omega
          · omega
        by_cases q : u = t
        · rw [if_pos q] at he
          by_cases q' : u' = t
          · omega
          · rw [if_neg q'] at he
            exact absurd he.symm (nj u' hu')
        · rw [if_neg q] at hne he
          by_cases q' : u' = t
          · rw [if_pos q'] at he
            exact absurd he (nj u hu)
          · rw [if_neg q'] at he
            exact f1.2 u u' hu hu' hne he
      · rw [g5, or_test]
        by_cases q : u = t
        · subst q
          simp
        · have := f2.2 u hu
          simp only []
          rw [decide_eq_false (fun hh => q hh.symm), Bool.or_false, if_neg q]
          exact this
      · rw [mf_cost_u g2, at1, f3, r3]
        unfold mf_wt
        omega
theorem mf_I_skip {P : zMf} {j : Nat} {b : Nat → Int} (hI : mf_I P j b) (hk : ∀ t, mf_k P t j = false) : mf_I P (j + 1) b := by
  have down : ∀ a, mf_F P (j + 1) a → mf_F P j a := fun a ha => ⟨fun u hu => by
    rcases ha.1 u hu with g | ⟨e, g1, g2, g3⟩
    · exact Or.inl g
    · refine Or.inr ⟨e, ?_, g2, g3⟩
      rcases Nat.lt_or_ge e j with q5 | q5
      · exact q5
      · obtain rfl : e = j := by omega
        rw [hk u] at g3
        exact absurd g3 (by simp), ha.2⟩
  have up : ∀ a, mf_F P j a → mf_F P (j + 1) a := fun a ha => ⟨fun u hu => by
    rcases ha.1 u hu with g | ⟨e, g1, g2, g3⟩
    · exact Or.inl g
    · exact Or.inr ⟨e, by omega, g2, g3⟩, ha.2⟩
  refine ⟨fun a h ha hS => hI.1 a h (down a ha) hS, fun h hh hb => ?_⟩
  obtain ⟨a, f1, f2, f3⟩ := hI.2 h hh hb
  exact ⟨a, up a f1, f2, f3⟩
theorem mf_cnt_S {P : zMf} {a : Nat → Int} {h : Nat} (hS : mf_S P a h) (h12 : mf_n P ≤ 12) : mf_cnt P a = (fr_c h 12 : Int) := by
  have lo : ∀ m : Nat, m ≤ mf_n P → su (fun t => if a t = -1 then (0 : Int) else 1) m 0 = (fr_c h m : Int) := by
    intro m
    induction m with
    | zero => intro _; rfl
    | succ m ih =>
      intro hm
      rw [su_snoc, ih (by omega), Nat.zero_add]
      show (fr_c h m : Int) + (if a m = -1 then 0 else 1) = ((fr_c h m + (if h.testBit m = true then 1 else 0) : Nat) : Int)
      have := hS.2 m (by omega)
      by_cases q : a m = -1
      · rw [if_pos q, if_neg (fun hh => this.1 hh q)]
        omega
      · rw [if_neg q, if_pos (this.2 q)]
        omega
  have up : ∀ c : Nat, fr_c h (mf_n P + c) = fr_c h (mf_n P) := by
    intro c
    induction c with
    | zero => rfl
    | succ c ih =>
      rw [← ih]
      exact fr_c_hi (mf_n P + c) h (Nat.lt_of_lt_of_le hS.1 (Nat.pow_le_pow_right (n := 2) (by omega) (by omega)))
  unfold mf_cnt
  rw [lo _ (Nat.le_refl _), ← up (12 - mf_n P), show mf_n P + (12 - mf_n P) = 12 from by omega]
