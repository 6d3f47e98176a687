-- needs 9d
/-! morning, why, exchange: the morning gone through, as functions -/
def mo_l1 (b : Int) (Z : zM) (e : Int) : zM := if e = -1 then Z else if Z 3 e = -1 then zU Z 3 e b else Z
def mo_lt (X : zM) (b : Int) (t : Nat) (Z : zM) : zM := if X 7 (t : Int) = -1 then Z else mo_l1 b (mo_l1 b Z (X 7 (t : Int))) (f_ahead (mo_l1 b Z (X 7 (t : Int))) (X 7 (t : Int)))
def mo_lit (Y X : zM) : zM := z_lp (mo_lt X (Y 5 1)) (X 8 0).toNat 0 Y
/-- the yard, when the table is free, the sum, what is told of each train: 0 how late, 1 2 3 the causes -/
abbrev zMo : Type := zM × Int × Int × zM
def mo_rd (Z : zM) (b e : Int) : Int := max b (Z 3 e + Z 11 e)
def mo_rd2 (Z : zM) (b e : Int) : Int := if f_ahead Z e = -1 then mo_rd Z b e else max (mo_rd Z b e) (Z 3 (f_ahead Z e) + Z 11 (f_ahead Z e))
def mo_Z1 (Z : zM) (b fr e : Int) : zM := zU Z 5 1 (max fr (mo_rd2 Z b e))
def mo_L (L : zM) (t a b c d : Int) : zM := zU (zU (zU (zU L 0 t a) 1 t b) 2 t c) 3 t d
def mo_step (X : zM) (b t : Int) (q : zMo) : zMo :=
  if X 7 t = -1 then (q.1, q.2.1, q.2.2.1, zU q.2.2.2 0 t (-2))
  else if q.1 4 (X 7 t) = 1 then (q.1, q.2.1, q.2.2.1, zU q.2.2.2 0 t (-1))
  else if q.1 2 (X 7 t) = -1 then (q.1, q.2.1, q.2.2.1 + max 0 (mo_rd q.1 b (X 7 t) - X 4 t), mo_L q.2.2.2 t (max 0 (mo_rd q.1 b (X 7 t) - X 4 t)) 0 (max 0 (mo_rd q.1 b (X 7 t) - X 4 t)) 0)
  else if f_frees (mo_Z1 q.1 b q.2.1 (X 7 t)) (X 7 t) = true then (f_free (mo_Z1 q.1 b q.2.1 (X 7 t)) (X 7 t), f_free (mo_Z1 q.1 b q.2.1 (X 7 t)) (X 7 t) 5 1, q.2.2.1 + max 0 (f_free (mo_Z1 q.1 b q.2.1 (X 7 t)) (X 7 t) 5 1 - X 4 t), mo_L q.2.2.2 t (max 0 (f_free (mo_Z1 q.1 b q.2.1 (X 7 t)) (X 7 t) 5 1 - X 4 t)) (max 0 (q.2.1 - (X 4 t - f_om (mo_Z1 q.1 b q.2.1 (X 7 t)) (X 7 t)))) (max 0 (mo_rd2 q.1 b (X 7 t) - (X 4 t - f_om (mo_Z1 q.1 b q.2.1 (X 7 t)) (X 7 t)))) (f_am (mo_Z1 q.1 b q.2.1 (X 7 t)) (X 7 t)))
  else (q.1, q.2.1, q.2.2.1, zU q.2.2.2 0 t (-1))
/-- the next train: the least minute, of those the least number; -1: none -/
def mo_pick (X : zM) (n done : Nat) : Int := z_lp (fun o t => if done.testBit o = false ∧ (t = -1 ∨ X 4 (o : Int) < X 4 t) then (o : Int) else t) n 0 (-1)
def mo_go (X : zM) (b : Int) (n : Nat) : Nat → Nat → zMo → zMo
  | 0, _, q => q
  | k + 1, done, q => mo_go X b n k (done ||| 2 ^ (mo_pick X n done).toNat) (mo_step X b (mo_pick X n done) q)
def mo_all (Y X : zM) : zMo := mo_go X (Y 5 1) (X 8 0).toNat (X 8 0).toNat 0 (mo_lit Y X, Y 5 1, 0, fun _ _ => 0)
theorem z_lp_snoc {A : Type} {f : Nat → A → A} : ∀ (k i : Nat) (a : A), z_lp f (k + 1) i a = f (i + k) (z_lp f k i a)
  | 0, i, a => rfl
  | k + 1, i, a => by
    show z_lp f (k + 1) (i + 1) (f i a) = f (i + (k + 1)) (z_lp f k (i + 1) (f i a))
    rw [z_lp_snoc k (i + 1) (f i a), show i + 1 + k = i + (k + 1) from by omega]
def mo_isP (X : zM) (done n : Nat) (t : Int) : Prop := (t = -1 ∧ ∀ o, o < n → done.testBit o = true) ∨ ∃ p : Nat, t = (p : Int) ∧ p < n ∧ done.testBit p = false ∧ ∀ o, o < n → done.testBit o = false → X 4 (p : Int) < X 4 (o : Int) ∨ (X 4 (p : Int) = X 4 (o : Int) ∧ p ≤ o)
theorem mo_pick_is (X : zM) (done : Nat) : ∀ n : Nat, mo_isP X done n (mo_pick X n done)
  | 0 => Or.inl ⟨rfl, fun o ho => by omega⟩
  | n + 1 => by
    have ih := mo_pick_is X done n
    unfold mo_pick
    rw [z_lp_snoc]
    unfold mo_pick at ih
    generalize z_lp (fun (o : Nat) (t : Int) => if done.testBit o = false ∧ (t = -1 ∨ X 4 (o : Int) < X 4 t) then (o : Int) else t) n 0 (-1) = t at *
    rw [Nat.zero_add]
    by_cases q : done.testBit n = false ∧ (t = -1 ∨ X 4 (n : Int) < X 4 t)
    · rw [if_pos q]
      refine Or.inr ⟨n, rfl, by omega, q.1, fun o ho hd => ?_⟩
      rcases Nat.lt_or_ge o n with q2 | q2
      · rcases ih with ⟨h1, h2⟩ | ⟨p, h1, h2, h3, h4⟩
        · have := h2 o q2
          rw [hd] at this
          cases this
        · have q3 : X 4 (n : Int) < X 4 t := by
            rcases q.2 with q3 | q3
            · omega
            · exact q3
          rw [h1] at q3
          have := h4 o q2 hd
          omega
      · obtain rfl : o = n := by omega
        exact Or.inr ⟨rfl, Nat.le_refl _⟩
    · rw [if_neg q]
      rcases ih with ⟨h1, h2⟩ | ⟨p, h1, h2, h3, h4⟩
      · refine Or.inl ⟨h1, fun o ho => ?_⟩
        rcases Nat.lt_or_ge o n with q2 | q2
        · exact h2 o q2
        · obtain rfl : o = n := by omega
          cases hb : done.testBit o
          · exact absurd ⟨hb, Or.inl h1⟩ q
          · rfl
      · refine Or.inr ⟨p, h1, by omega, h3, fun o ho hd => ?_⟩
        rcases Nat.lt_or_ge o n with q2 | q2
        · exact h4 o q2 hd
        · obtain rfl : o = n := by omega
          have : ¬ X 4 (o : Int) < X 4 t := fun hh => q ⟨hd, Or.inr hh⟩
          rw [h1] at this
          omega
theorem mo_isP_uniq {X : zM} {done n : Nat} {t t' : Int} (h : mo_isP X done n t) (h' : mo_isP X done n t') : t = t' := by
  rcases h with ⟨h1, h2⟩ | ⟨p, h1, h2, h3, h4⟩ <;> rcases h' with ⟨k1, k2⟩ | ⟨p', k1, k2, k3, k4⟩
  · omega
  · have := h2 p' k2
    rw [k3] at this
    cases this
  · have := k2 p h2
    rw [h3] at this
    cases this
  · have a := h4 p' k2 k3
    have b := k4 p h2 h3
    omega
theorem fr_c_all (D : Nat) : ∀ n : Nat, fr_c D n = n → ∀ o, o < n → D.testBit o = true
  | 0, _, o, ho => by omega
  | n + 1, h, o, ho => by
    have h : fr_c D n + (if D.testBit n = true then 1 else 0) = n + 1 := h
    have l := fr_c_le D n
    have hn : D.testBit n = true := by
      by_cases q : D.testBit n = true
      · exact q
      · rw [if_neg q] at h
        omega
    rw [if_pos hn] at h
    rcases Nat.lt_or_ge o n with q | q
    · exact fr_c_all D n (by omega) o q
    · obtain rfl : o = n := by omega
      exact hn
theorem fr_c_fl (D : Nat) : ∀ n : Nat, (∀ o, o < n → D.testBit o = true) → fr_c D n = n
  | 0, _ => rfl
  | n + 1, h => by
    show fr_c D n + (if D.testBit n = true then 1 else 0) = n + 1
    rw [fr_c_fl D n (fun o ho => h o (by omega)), if_pos (h n (by omega))]
/-- while some are left there is a next one -/
theorem mo_pick_ok {X : zM} {done n : Nat} (h : fr_c done n < n) : ∃ p : Nat, mo_pick X n done = (p : Int) ∧ p < n ∧ done.testBit p = false ∧ fr_c (done ||| 2 ^ p) n = fr_c done n + 1 := by
  rcases mo_pick_is X done n with ⟨h1, h2⟩ | ⟨p, h1, h2, h3, h4⟩
  · have := fr_c_fl done n h2
    omega
  · refine ⟨p, h1, h2, h3, ?_⟩
    rw [fr_c_or h3 n, if_pos h2]
theorem or_test (done p o : Nat) : (done ||| 2 ^ p).testBit o = (done.testBit o || decide (p = o)) := by
  rw [Nat.testBit_or, Nat.testBit_two_pow]
/-- the order that the class keeps is that -/
theorem mo_turn {X : zM} {f : Int → Int} {n i done : Nat} (hf : z_turn f (X 4) (n : Int)) (hi : i < n) (hd : ∀ o, o < n → (done.testBit o = true ↔ ∃ j : Nat, j < i ∧ f (j : Int) = (o : Int))) : mo_pick X n done = f (i : Int) := by
  obtain ⟨t1, t2, t3⟩ := hf
  have fi := t1 (i : Int) (by omega)
  have inj : ∀ a b : Nat, a < n → b < n → f (a : Int) = f (b : Int) → a = b := by
    intro a b ha hb e
    rcases Nat.lt_trichotomy a b with q | q | q
    · have := t2 (a : Int) (b : Int) (by omega) (by omega) (by omega)
      rw [e] at this
      omega
    · exact q
    · have := t2 (b : Int) (a : Int) (by omega) (by omega) (by omega)
      rw [e] at this
      omega
  refine mo_isP_uniq (mo_pick_is X done n) (Or.inr ⟨(f (i : Int)).toNat, by omega, by omega, ?_, fun o ho hdo => ?_⟩)
  · cases hb : done.testBit (f (i : Int)).toNat
    · rfl
    · obtain ⟨j, hj, e⟩ := (hd _ (by omega)).1 hb
      have := inj j i (by omega) hi (by omega)
      omega
  · obtain ⟨j, hj, e⟩ := t3 (o : Int) (by omega)
    have hji : (i : Int) ≤ j := by
      rcases Int.lt_or_le j (i : Int) with q | q
      · have := (hd o ho).2 ⟨j.toNat, by omega, by rw [show ((j.toNat : Nat) : Int) = j from by omega]; exact e⟩
        rw [hdo] at this
        cases this
      · exact q
    rw [show (((f (i : Int)).toNat : Nat) : Int) = f (i : Int) from by omega, ← e]
    rcases Int.lt_or_eq_of_le hji with q | q
    · have := t2 (i : Int) j (by omega) q hj.2
      omega
    · rw [← q] at e ⊢
      omega
/-! what stays true -/
theorem w_any {Z : zM} {v : Int} (h : y_W Z) (h3 : ∀ e, 0 ≤ e ∧ e < 12 → Z 3 e ≤ v) (hv : 0 ≤ v ∧ v ≤ 400000) : y_W (zU Z 5 1 v) := by
  obtain ⟨a1, a2, a3, a4⟩ := h
  have o : ∀ k, ¬ k = 5 → zU Z 5 1 v k = Z k := fun k hk => zU_off k hk
  refine ⟨by rw [o 13 (by omega)]; exact a1, ?_, fun x hx => ?_, fun e he => ?_⟩
  · rw [o 13 (by omega), zU_ne (a := 5) (b := 0) (by omega), zU_eq]
    exact ⟨a2.1, a2.2.1, hv.1, hv.2⟩
  · rw [o 6 (by omega), o 7 (by omega), o 8 (by omega), o 0 (by omega), o 1 (by omega), o 2 (by omega), o 13 (by omega)]
    exact a3 x hx
  · rw [o 9 (by omega), o 10 (by omega), o 11 (by omega), o 12 (by omega), o 4 (by omega), o 2 (by omega), o 3 (by omega), o 0 (by omega), o 1 (by omega), o 13 (by omega), zU_eq]
    have := a4 e he
    exact ⟨this.1, ⟨this.2.1.1, this.2.1.2.1, this.2.1.2.2.1, h3 e he⟩, this.2.2⟩
theorem w_lit {Z : zM} {e v : Int} (h : y_W Z) (he : 0 ≤ e ∧ e < Z 13 3) (hv : -1 ≤ v ∧ v ≤ Z 5 1) : y_W (zU Z 3 e v) := by
  obtain ⟨a1, a2, a3, a4⟩ := h
  have o : ∀ k, ¬ k = 3 → zU Z 3 e v k = Z k := fun k hk => zU_off k hk
  refine ⟨by rw [o 13 (by omega)]; exact a1, ?_, fun x hx => ?_, fun x hx => ?_⟩
  · rw [o 13 (by omega), o 5 (by omega)]
    exact a2
  · rw [o 6 (by omega), o 7 (by omega), o 8 (by omega), o 0 (by omega), o 1 (by omega), o 2 (by omega), o 13 (by omega)]
    exact a3 x hx
  · rw [o 9 (by omega), o 10 (by omega), o 11 (by omega), o 12 (by omega), o 4 (by omega), o 2 (by omega), o 0 (by omega), o 1 (by omega), o 13 (by omega), o 5 (by omega)]
    have := a4 x hx
    by_cases q : x = e
    · subst q
      rw [zU_eq]
      exact ⟨this.1, ⟨this.2.1.1, this.2.1.2.1, hv.1, hv.2⟩, this.2.2.1, fun hh => by omega⟩
    · rw [zU_ne (by omega)]
      exact this
/-- what lighting keeps -/
def mo_p (Y Z : zM) : Prop := y_W Z ∧ ∀ k, ¬ k = 3 → Z k = Y k
theorem mo_l1_p {Y Z : zM} {e : Int} (h : mo_p Y Z) (he : e = -1 ∨ (0 ≤ e ∧ e < Y 13 3)) : mo_p Y (mo_l1 (Y 5 1) Z e) := by
  unfold mo_l1
  by_cases q : e = -1
  · rw [if_pos q]; exact h
  · rw [if_neg q]
    have w := h.1.1
    have w5 := h.1.2.1
    rw [h.2 5 (by omega)] at w5
    by_cases q2 : Z 3 e = -1
    · rw [if_pos q2]
      exact ⟨w_lit h.1 (by rw [h.2 13 (by omega)]; omega) (by rw [h.2 5 (by omega)]; omega), fun k hk => by rw [zU_off k hk]; exact h.2 k hk⟩
    · rw [if_neg q2]; exact h
theorem mo_ahead_r {Z : zM} {e : Int} (h : y_W Z) (he : 0 ≤ e ∧ e < 12) : f_ahead Z e = -1 ∨ (0 ≤ f_ahead Z e ∧ f_ahead Z e < Z 13 3) := by
  by_cases q : f_ahead Z e = -1
  · exact Or.inl q
  · exact Or.inr (f_ahead_b h he q).1
theorem mo_lt_p {Y Z X : zM} {t : Nat} (h : mo_p Y Z) (hX : X 7 (t : Int) = -1 ∨ (0 ≤ X 7 (t : Int) ∧ X 7 (t : Int) < Y 13 3)) : mo_p Y (mo_lt X (Y 5 1) t Z) := by
  unfold mo_lt
  by_cases q : X 7 (t : Int) = -1
  · rw [if_pos q]; exact h
  · rw [if_neg q]
    have h1 := mo_l1_p h hX
    have w := h1.1.1
    have := mo_ahead_r h1.1 (e := X 7 (t : Int)) (by rw [h1.2 13 (by omega)] at w; omega)
    rw [h1.2 13 (by omega)] at this
    exact mo_l1_p h1 this
theorem mo_lit_p {Y X : zM} (hW : y_W Y) : ∀ (k i : Nat) (Z : zM), mo_p Y Z → (∀ t : Nat, t < i + k → X 7 (t : Int) = -1 ∨ (0 ≤ X 7 (t : Int) ∧ X 7 (t : Int) < Y 13 3)) → mo_p Y (z_lp (mo_lt X (Y 5 1)) k i Z)
  | 0, _, _, h, _ => h
  | k + 1, i, Z, h, hX => mo_lit_p hW k (i + 1) _ (mo_lt_p h (hX i (by omega))) (fun t ht => hX t (by omega))
/-- what the trains' going keeps -/
def mo_ok (Y Z : zM) : Prop := y_W (zU Z 5 1 (Y 5 1)) ∧ y_R Z ∧ ∀ k, 3 < k → ¬ k = 5 → Z k = Y k
theorem zU_2 {Z : zM} {v w : Int} : zU (zU Z 5 1 v) 5 1 w = zU Z 5 1 w := by
  funext k i
  unfold zU
  by_cases q : k = 5 ∧ i = 1
  · rw [if_pos q, if_pos q]
  · rw [if_neg q, if_neg q, if_neg q]
theorem f_ahead_n {Z : zM} {v e : Int} : f_ahead (zU Z 5 1 v) e = f_ahead Z e := by
  have o : ∀ k, ¬ k = 5 → zU Z 5 1 v k = Z k := fun k hk => zU_off k hk
  unfold f_ahead f_atb
  rw [o 0 (by omega), o 1 (by omega), o 2 (by omega)]
theorem mo_ok_w {Y Z : zM} {v : Int} (h : mo_ok Y Z) (hv : Y 5 1 ≤ v ∧ v ≤ 400000) : y_W (zU Z 5 1 v) := by
  have := w_now (v := v) h.1 (by rw [zU_eq]; exact hv)
  rw [zU_2] at this
  exact this
theorem mo_ok_b {Y Z : zM} (h : mo_ok Y Z) : (∀ e, 0 ≤ e ∧ e < 12 → (-1 ≤ Z 3 e ∧ Z 3 e ≤ Y 5 1 ∧ 0 ≤ Z 11 e ∧ Z 11 e ≤ 600 ∧ (Z 4 e = 0 ∨ Z 4 e = 1) ∧ -1 ≤ Z 2 e ∧ Z 2 e < Z 13 0)) ∧ Z 13 3 ≤ 12 ∧ Z 13 0 ≤ 23 := by
  obtain ⟨a1, a2, a3, a4⟩ := h.1
  have o : ∀ k, ¬ k = 5 → zU Z 5 1 (Y 5 1) k = Z k := fun k hk => zU_off k hk
  rw [o 13 (by omega)] at a1
  refine ⟨fun e he => ?_, by omega, by omega⟩
  have := a4 e he
  rw [o 9 (by omega), o 10 (by omega), o 11 (by omega), o 12 (by omega), o 4 (by omega), o 2 (by omega), o 3 (by omega), o 13 (by omega), zU_eq] at this
  omega
theorem y_R_n {Z : zM} {v : Int} (h : y_R Z) : y_R (zU Z 5 1 v) := by
  unfold y_R at *
  rw [zU_off 15 (by omega), zU_off 14 (by omega)]
  exact h
theorem mo_ahead_r2 {Y Z : zM} {e : Int} (h : mo_ok Y Z) (he : 0 ≤ e ∧ e < 12) : f_ahead Z e = -1 ∨ (0 ≤ f_ahead Z e ∧ f_ahead Z e < 12) := by
  have w := mo_ok_b h
  have := mo_ahead_r (e := e) h.1 he
  rw [f_ahead_n, zU_off 13 (by omega)] at this
  omega
theorem mo_rd2_b {Y Z : zM} {e : Int} (h : mo_ok Y Z) (he : 0 ≤ e ∧ e < 12) : (Y 5 1 ≤ mo_rd Z (Y 5 1) e ∧ mo_rd Z (Y 5 1) e ≤ Y 5 1 + 600) ∧ Y 5 1 ≤ mo_rd2 Z (Y 5 1) e ∧ mo_rd2 Z (Y 5 1) e ≤ Y 5 1 + 600 := by
  have w := (mo_ok_b h).1
  have we := w e he
  have ha := mo_ahead_r2 h he
  unfold mo_rd2 mo_rd
  rcases ha with ha | ha
  · rw [if_pos ha]; omega
  · have wf := w _ ha
    rw [if_neg (by omega)]; omega
/-- a train that goes -/
theorem mo_go1 {Y Z : zM} {fr e : Int} (h : mo_ok Y Z) (hb : 0 ≤ Y 5 1 ∧ Y 5 1 ≤ 320000) (he : 0 ≤ e ∧ e < Y 13 3) (hin : ¬ Z 2 e = -1) (hfr : Y 5 1 ≤ fr ∧ fr ≤ 398000) (hf : f_frees (mo_Z1 Z (Y 5 1) fr e) e = true) : mo_ok Y (f_free (mo_Z1 Z (Y 5 1) fr e) e) ∧ f_free (mo_Z1 Z (Y 5 1) fr e) e 5 1 = max fr (mo_rd2 Z (Y 5 1) e) + (f_am (mo_Z1 Z (Y 5 1) fr e) e + f_om (mo_Z1 Z (Y 5 1) fr e) e) ∧ (0 ≤ f_am (mo_Z1 Z (Y 5 1) fr e) e ∧ f_am (mo_Z1 Z (Y 5 1) fr e) e ≤ 234) ∧ 0 ≤ f_om (mo_Z1 Z (Y 5 1) fr e) e ∧ f_om (mo_Z1 Z (Y 5 1) fr e) e ≤ 234 := by
  have w := mo_ok_b h
  have e13 : Z 13 = Y 13 := h.2.2 13 (by omega) (by omega)
  have he' : 0 ≤ e ∧ e < 12 := by rw [← e13] at he; omega
  have rb := mo_rd2_b h he'
  have hW1 : y_W (mo_Z1 Z (Y 5 1) fr e) := mo_ok_w h (by omega)
  have now1 : mo_Z1 Z (Y 5 1) fr e 5 1 = max fr (mo_rd2 Z (Y 5 1) e) := zU_eq
  have z2 : mo_Z1 Z (Y 5 1) fr e 2 = Z 2 := zU_off 2 (by omega)
  have z13 : mo_Z1 Z (Y 5 1) fr e 13 = Y 13 := by rw [← e13]; exact zU_off 13 (by omega)
  have z3 : mo_Z1 Z (Y 5 1) fr e 3 = Z 3 := zU_off 3 (by omega)
  have a := f_am_b hW1 he' hf
  have o := f_om_b hW1 he' (by rw [z2]; exact hin) hf (by rw [now1]; omega)
  have wf := w_free hW1 (by rw [z13]; exact he) (by rw [z2]; exact hin) hf (by rw [now1]; omega)
  refine ⟨⟨w_any wf.1 (fun x hx => ?_) (by omega), y_R_free (y_R_n h.2.1), fun k hk hk5 => ?_⟩, by rw [wf.2, now1], a, o⟩
  · rw [f_free_k (by omega) (by omega), z3]
    exact (w.1 x hx).2.1
  · rw [f_free_k (by omega) hk5]
    show zU Z 5 1 _ k = Y k
    rw [zU_off k hk5]
    exact h.2.2 k hk hk5
/-- what a step keeps -/
def mo_b (Y : zM) (k : Int) (q : zMo) : Prop := mo_ok Y q.1 ∧ (Y 5 1 ≤ q.2.1 ∧ q.2.1 ≤ Y 5 1 + 600 + 468 * k) ∧ 0 ≤ q.2.2.1 ∧ q.2.2.1 ≤ 330000 * k
theorem mo_step_b {Y X : zM} {t k : Int} {q : zMo} (h : mo_b Y k q) (hb : 0 ≤ Y 5 1 ∧ Y 5 1 ≤ 320000) (hk : 0 ≤ k ∧ k ≤ 8) (hX : X 7 t = -1 ∨ (0 ≤ X 7 t ∧ X 7 t < Y 13 3)) (h4 : 0 ≤ X 4 t) : mo_b Y (k + 1) (mo_step X (Y 5 1) t q) := by
  obtain ⟨h1, h2, h3⟩ := h
  unfold mo_step
  by_cases q1 : X 7 t = -1
  · rw [if_pos q1]; exact ⟨h1, by simp only []; omega, by simp only []; omega⟩
  · rw [if_neg q1]
    have w := mo_ok_b h1
    have e13 : q.1 13 = Y 13 := h1.2.2 13 (by omega) (by omega)
    have he' : 0 ≤ X 7 t ∧ X 7 t < 12 := by rw [← e13] at hX; omega
    have rb := mo_rd2_b h1 he'
    by_cases q2 : q.1 4 (X 7 t) = 1
    · rw [if_pos q2]; exact ⟨h1, by simp only []; omega, by simp only []; omega⟩
    · rw [if_neg q2]
      by_cases q3 : q.1 2 (X 7 t) = -1
      · rw [if_pos q3]; exact ⟨h1, by simp only []; omega, by simp only []; omega⟩
      · rw [if_neg q3]
        by_cases q4 : f_frees (mo_Z1 q.1 (Y 5 1) q.2.1 (X 7 t)) (X 7 t) = true
        · rw [if_pos q4]
          obtain ⟨g1, g2, g3, g4⟩ := mo_go1 h1 hb (by omega) q3 (by omega) q4
          exact ⟨g1, by simp only []; omega, by simp only []; omega⟩
        · rw [if_neg q4]; exact ⟨h1, by simp only []; omega, by simp only []; omega⟩
