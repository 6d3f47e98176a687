-- needs 73
/-! the fewest fires against the frost, as numbers -/
def w_n (Y : zM) (far : Int) (o e : Nat) : Bool := decide (¬ Y 2 (o : Int) = -1) && (decide (¬ Y 2 (e : Int) = -1) && decide (min (max (Y 2 (o : Int) - Y 2 (e : Int)) (Y 2 (e : Int) - Y 2 (o : Int))) (Y 13 0 - max (Y 2 (o : Int) - Y 2 (e : Int)) (Y 2 (e : Int) - Y 2 (o : Int))) ≤ far))
def w_m (Y : zM) (far : Int) (o : Nat) : Nat := f_bits (w_n Y far o) 12
def w_u (Y : zM) (far : Int) : Nat → Nat
  | 0 => 0
  | o + 1 => w_u Y far o ||| w_m Y far o
def w_W (Y : zM) (far : Int) (T : Nat) : Nat → Nat
  | 0 => 0
  | o + 1 => if T.testBit o = true then w_W Y far T o ||| w_m Y far o else w_W Y far T o
def cw (Y : zM) (far : Int) : Nat → Nat → Nat → Option Nat
  | 0, w, _ => if w = f_ins Y then some 0 else none
  | e + 1, w, l => if w = f_ins Y then some 0 else if l = 0 then none else if w ||| w_u Y far (e + 1) = f_ins Y then (match cw Y far e w l with
      | some T => some T
      | none => if w_m Y far e = 0 then none else match cw Y far e (w ||| w_m Y far e) (l - 1) with
        | some T => some (T + 2 ^ e)
        | none => none) else none
def cw_top (Y : zM) (far : Int) : Nat → Nat → Option (Nat × Nat)
  | 0, _ => none
  | j + 1, m => match cw Y far 12 0 m with
    | some T => some (m, T)
    | none => cw_top Y far j (m + 1)
theorem b_ext {a b : Nat} (h : ∀ i, a.testBit i = true ↔ b.testBit i = true) : a = b := by
  apply Nat.eq_of_testBit_eq
  intro i
  exact Bool.eq_iff_iff.mpr (h i)
section
variable {Y : zM} {far : Int}
theorem f_ins_t (i : Nat) : (f_ins Y).testBit i = true ↔ i < 12 ∧ ¬ Y 2 (i : Int) = -1 := by
  unfold f_ins
  rw [f_bits_test]
  simp
theorem w_m_t (o i : Nat) : (w_m Y far o).testBit i = true ↔ i < 12 ∧ w_n Y far o i = true := by
  unfold w_m
  rw [f_bits_test]
  simp
theorem w_n_in {o i : Nat} (h : w_n Y far o i = true) : ¬ Y 2 (o : Int) = -1 ∧ ¬ Y 2 (i : Int) = -1 := by
  unfold w_n at h
  simp at h
  exact ⟨h.1, h.2.1⟩
theorem w_n_self {o : Nat} (hf : 0 ≤ far) (h : ¬ Y 2 (o : Int) = -1) : w_n Y far o o = true := by
  unfold w_n
  rw [decide_eq_true h, decide_eq_true (by omega)]
  rfl
theorem w_u_t : ∀ (n i : Nat), (w_u Y far n).testBit i = true ↔ ∃ o, o < n ∧ i < 12 ∧ w_n Y far o i = true
  | 0, i => by simp [w_u]
  | n + 1, i => by
    have ih := w_u_t n i
    simp only [w_u, Nat.testBit_or, Bool.or_eq_true]
    rw [ih, w_m_t]
    constructor
    · rintro (⟨o, h1, h2⟩ | h)
      · exact ⟨o, by omega, h2⟩
      · exact ⟨n, by omega, h⟩
    · rintro ⟨o, h1, h2⟩
      by_cases q : o = n
      · subst q; exact Or.inr h2
      · exact Or.inl ⟨o, by omega, h2⟩
theorem w_W_t (T : Nat) : ∀ (n i : Nat), (w_W Y far T n).testBit i = true ↔ ∃ o, o < n ∧ T.testBit o = true ∧ i < 12 ∧ w_n Y far o i = true
  | 0, i => by simp [w_W]
  | n + 1, i => by
    have ih := w_W_t T n i
    simp only [w_W]
    by_cases q : T.testBit n = true
    · rw [if_pos q, Nat.testBit_or, Bool.or_eq_true, ih, w_m_t]
      constructor
      · rintro (⟨o, h1, h2⟩ | h)
        · exact ⟨o, by omega, h2⟩
        · exact ⟨n, by omega, q, h⟩
      · rintro ⟨o, h1, h2, h3⟩
        by_cases q2 : o = n
        · subst q2; exact Or.inr h3
        · exact Or.inl ⟨o, by omega, h2, h3⟩
    · rw [if_neg q, ih]
      constructor
      · rintro ⟨o, h1, h2⟩
        exact ⟨o, by omega, h2⟩
      · rintro ⟨o, h1, h2, h3⟩
        by_cases q2 : o = n
        · subst q2; exact absurd h2 q
        · exact ⟨o, by omega, h2, h3⟩
theorem fr_c_or {T e : Nat} (h : T.testBit e = false) : ∀ n : Nat, fr_c (T ||| 2 ^ e) n = fr_c T n + if e < n then 1 else 0
  | 0 => by simp [fr_c]
  | n + 1 => by
    have ih := fr_c_or h n
    simp only [fr_c]
    rw [ih, Nat.testBit_or, Nat.testBit_two_pow]
    by_cases q : e = n
    · subst q
      simp [h]
    · have e1 : decide (e = n) = false := decide_eq_false q
      rw [e1, Bool.or_false]
      by_cases q2 : e < n
      · rw [if_pos q2, if_pos (show e < n + 1 by omega)]; omega
      · rw [if_neg q2, if_neg (show ¬ e < n + 1 by omega)]; omega
theorem fr_c_00 : fr_c 0 12 = 0 := by decide
theorem fr_c_z {T : Nat} (hT : T < 4096) (h : fr_c T 12 = 0) : T = 0 := by
  have h0 := fr_c_0 T 12 h
  apply Nat.eq_of_testBit_eq
  intro i
  rw [Nat.zero_testBit]
  by_cases q : i < 12
  · exact h0 i q
  · exact Nat.testBit_lt_two_pow (Nat.lt_of_lt_of_le hT (Nat.pow_le_pow_right (n := 2) (i := 12) (by omega) (by omega)))
/-- a set that keeps the frost off, beside those that are warm already -/
def w_f (Y : zM) (far : Int) (e w l T : Nat) : Prop := T < 2 ^ e ∧ (∀ i, T.testBit i = true → ¬ Y 2 (i : Int) = -1) ∧ fr_c T 12 ≤ l ∧ w ||| w_W Y far T 12 = f_ins Y
theorem w_W_0 : w_W Y far 0 12 = 0 := b_ext (fun i => by rw [w_W_t]; simp)
theorem p_add {T e : Nat} (h : T < 2 ^ e) : T + 2 ^ e = T ||| 2 ^ e := by
  have := Nat.two_pow_add_eq_or_of_lt h 1
  rw [Nat.mul_one] at this
  rw [Nat.or_comm, ← this, Nat.add_comm]
theorem w_W_or {T e : Nat} (he : e < 12) : w_W Y far (T ||| 2 ^ e) 12 = w_W Y far T 12 ||| w_m Y far e := by
  refine b_ext (fun i => ?_)
  rw [Nat.testBit_or, Bool.or_eq_true, w_W_t, w_W_t, w_m_t]
  constructor
  · rintro ⟨o, h1, h2, h3⟩
    rw [Nat.testBit_or, Nat.testBit_two_pow] at h2
    by_cases q : e = o
    · subst q; exact Or.inr h3
    · simp [q] at h2
      exact Or.inl ⟨o, h1, h2, h3⟩
  · rintro (⟨o, h1, h2, h3⟩ | h)
    · exact ⟨o, h1, by rw [Nat.testBit_or, h2]; rfl, h3⟩
    · exact ⟨e, he, by rw [Nat.testBit_or, Nat.testBit_two_pow]; simp, h⟩
theorem n_tb {T i n : Nat} (h : T < 2 ^ n) (hi : n ≤ i) : T.testBit i = false := Nat.testBit_lt_two_pow (Nat.lt_of_lt_of_le h (Nat.pow_le_pow_right (by omega) hi))
theorem cw_ok (hf : 0 ≤ far) : ∀ (e : Nat), e ≤ 12 → ∀ (w l : Nat), (∀ T, cw Y far e w l = some T → w_f Y far e w l T ∧ ∀ T', w_f Y far e w l T' → T ≤ T') ∧ (cw Y far e w l = none → ∀ T', ¬ w_f Y far e w l T')
  | 0, _, w, l => by
    simp only [cw]
    by_cases q : w = f_ins Y
    · rw [if_pos q]
      refine ⟨fun T hT => ?_, fun h => by cases h⟩
      cases hT
      exact ⟨⟨by simp, fun i hi => (by simp at hi), by rw [fr_c_00]; exact Nat.zero_le l, by rw [w_W_0, Nat.or_zero]; exact q⟩, fun T' _ => by omega⟩
    · rw [if_neg q]
      refine ⟨fun T hT => (by cases hT), fun _ T' hT => q ?_⟩
      have h0 : T' = 0 := by have := hT.1; simp at this; exact this
      have := hT.2.2.2
      rw [h0, w_W_0, Nat.or_zero] at this
      exact this
  | e + 1, he, w, l => by
    have ih := cw_ok hf e (by omega)
    have p12 : 2 ^ (e + 1) ≤ 4096 := Nat.pow_le_pow_right (n := 2) (j := 12) (by omega) he
    simp only [cw]
    by_cases q : w = f_ins Y
    · rw [if_pos q]
      refine ⟨fun T hT => ?_, fun h => by cases h⟩
      cases hT
      exact ⟨⟨Nat.two_pow_pos _, fun i hi => (by simp at hi), by rw [fr_c_00]; exact Nat.zero_le l, by rw [w_W_0, Nat.or_zero]; exact q⟩, fun T' _ => by omega⟩
    · rw [if_neg q]
      by_cases q2 : l = 0
      · rw [if_pos q2]
        refine ⟨fun T hT => (by cases hT), fun _ T' hT => q ?_⟩
        have h0 : T' = 0 := fr_c_z (by have := hT.1; omega) (by have := hT.2.2.1; omega)
        have := hT.2.2.2
        rw [h0, w_W_0, Nat.or_zero] at this
        exact this
      · rw [if_neg q2]
        by_cases q3 : w ||| w_u Y far (e + 1) = f_ins Y
        · rw [if_pos q3]
          -- a set with the one at hand
          have split : ∀ T', w_f Y far (e + 1) w l T' → ¬ T' < 2 ^ e → ∃ T2, T' = T2 + 2 ^ e ∧ w_f Y far e (w ||| w_m Y far e) (l - 1) T2 ∧ ¬ Y 2 (e : Int) = -1 := by
            intro T' hT hn
            have h1 := hT.1
            rw [Nat.pow_succ] at h1
            have lt : T' - 2 ^ e < 2 ^ e := by omega
            have eq : T' = (T' - 2 ^ e) ||| 2 ^ e := by rw [← p_add lt]; omega
            have tf : (T' - 2 ^ e).testBit e = false := n_tb lt (Nat.le_refl e)
            refine ⟨T' - 2 ^ e, by omega, ⟨lt, fun i hi => hT.2.1 i (by rw [eq, Nat.testBit_or, hi]; rfl), ?_, ?_⟩, hT.2.1 e (by rw [eq, Nat.testBit_or, Nat.testBit_two_pow]; simp)⟩
            · have h3 := hT.2.2.1
              rw [eq, fr_c_or tf, if_pos (by omega)] at h3
              omega
            · have h4 := hT.2.2.2
              rw [eq, w_W_or (by omega)] at h4
              rw [Nat.or_assoc, Nat.or_comm (w_m Y far e)]
              exact h4
          have up : ∀ T', w_f Y far (e + 1) w l T' → T' < 2 ^ e → w_f Y far e w l T' := fun T' hT hl => ⟨hl, hT.2⟩
          cases h1 : cw Y far e w l with
          | some T =>
            have g := (ih w l).1 T h1
            refine ⟨fun T0 hT0 => ?_, fun h => by cases h⟩
            cases hT0
            refine ⟨⟨by have := g.1.1; rw [Nat.pow_succ]; omega, g.1.2⟩, fun T' hT => ?_⟩
            by_cases q4 : T' < 2 ^ e
            · exact g.2 T' (up T' hT q4)
            · have := g.1.1
              omega
          | none =>
            have g := (ih w l).2 h1
            simp only []
            by_cases q5 : w_m Y far e = 0
            · rw [if_pos q5]
              refine ⟨fun T hT => (by cases hT), fun _ T' hT => ?_⟩
              by_cases q4 : T' < 2 ^ e
              · exact g T' (up T' hT q4)
              · obtain ⟨T2, _, _, hp⟩ := split T' hT q4
                have := (w_m_t (Y := Y) (far := far) e e).2 ⟨by omega, w_n_self hf hp⟩
                rw [q5, Nat.zero_testBit] at this
                cases this
            · rw [if_neg q5]
              have hp : ¬ Y 2 (e : Int) = -1 := by
                intro hp
                apply q5
                apply Nat.eq_of_testBit_eq
                intro i
                rw [Nat.zero_testBit]
                cases hb : (w_m Y far e).testBit i
                · rfl
                · exact absurd hp (w_n_in ((w_m_t e i).1 hb).2).1
              cases h2 : cw Y far e (w ||| w_m Y far e) (l - 1) with
              | some T =>
                have g2 := (ih (w ||| w_m Y far e) (l - 1)).1 T h2
                have tf : T.testBit e = false := n_tb g2.1.1 (Nat.le_refl e)
                refine ⟨fun T0 hT0 => ?_, fun h => by cases h⟩
                cases hT0
                refine ⟨⟨by have := g2.1.1; rw [Nat.pow_succ]; omega, fun i hi => ?_, ?_, ?_⟩, fun T' hT => ?_⟩
                · rw [p_add g2.1.1, Nat.testBit_or, Nat.testBit_two_pow] at hi
                  by_cases q6 : e = i
                  · subst q6; exact hp
                  · simp [q6] at hi
                    exact g2.1.2.1 i hi
                · rw [p_add g2.1.1, fr_c_or tf, if_pos (by omega)]
                  have := g2.1.2.2.1
                  omega
                · rw [p_add g2.1.1, w_W_or (by omega)]
                  have := g2.1.2.2.2
                  rw [Nat.or_assoc, Nat.or_comm (w_m Y far e)] at this
                  exact this
                · by_cases q4 : T' < 2 ^ e
                  · exact absurd (up T' hT q4) (g T')
                  · obtain ⟨T2, h3, h4, _⟩ := split T' hT q4
                    have := g2.2 T2 h4
                    omega
              | none =>
                have g2 := (ih (w ||| w_m Y far e) (l - 1)).2 h2
                refine ⟨fun T hT => (by cases hT), fun _ T' hT => ?_⟩
                by_cases q4 : T' < 2 ^ e
                · exact g T' (up T' hT q4)
                · obtain ⟨T2, _, h4, _⟩ := split T' hT q4
                  exact g2 T2 h4
        · rw [if_neg q3]
          refine ⟨fun T hT => (by cases hT), fun _ T' hT => q3 ?_⟩
          have h4 := hT.2.2.2
          refine b_ext (fun i => ?_)
          rw [Nat.testBit_or, Bool.or_eq_true, w_u_t]
          constructor
          · rintro (h5 | ⟨o, h5, h6, h7⟩)
            · rw [← h4, Nat.testBit_or, h5]; rfl
            · exact (f_ins_t i).2 ⟨h6, (w_n_in h7).2⟩
          · intro h5
            rw [← h4, Nat.testBit_or, Bool.or_eq_true, w_W_t] at h5
            rcases h5 with h5 | ⟨o, h5, h6, h7⟩
            · exact Or.inl h5
            · refine Or.inr ⟨o, ?_, h7⟩
              apply Classical.byContradiction
              intro h8
              rw [n_tb hT.1 (by omega)] at h6
              cases h6
/-- the reference's search -/
def fo (Y : zM) (far : Int) : Nat → Int
  | 0 => -1
  | s + 1 => if s &&& f_ins Y = s ∧ (fo Y far s = -1 ∨ fr_c s 12 < fr_c (fo Y far s).toNat 12) ∧ w_W Y far s 12 = f_ins Y then (s : Int) else fo Y far s
def w_g (Y : zM) (far : Int) (s : Nat) : Prop := s &&& f_ins Y = s ∧ w_W Y far s 12 = f_ins Y
theorem f_ins_lt : f_ins Y < 4096 := f_bits_lt _ 12
theorem w_sub (s : Nat) : s &&& f_ins Y = s ↔ ∀ i, s.testBit i = true → i < 12 ∧ ¬ Y 2 (i : Int) = -1 := by
  constructor
  · intro h i hi
    rw [← h, Nat.testBit_and, Bool.and_eq_true] at hi
    exact (f_ins_t i).1 hi.2
  · intro h
    refine b_ext (fun i => ?_)
    rw [Nat.testBit_and, Bool.and_eq_true]
    exact ⟨fun hh => hh.1, fun hi => ⟨hi, (f_ins_t i).2 (h i hi)⟩⟩
theorem w_sub_le {s : Nat} (h : s &&& f_ins Y = s) : s ≤ f_ins Y := by
  rw [← h]
  exact Nat.and_le_right
theorem fo_b : ∀ n : Nat, (fo Y far n = -1 ∧ ∀ s, s < n → ¬ w_g Y far s) ∨ (0 ≤ fo Y far n ∧ fo Y far n < (n : Int) ∧ w_g Y far (fo Y far n).toNat ∧ ∀ s, s < n → w_g Y far s → fr_c (fo Y far n).toNat 12 < fr_c s 12 ∨ (fr_c (fo Y far n).toNat 12 = fr_c s 12 ∧ (fo Y far n).toNat ≤ s))
  | 0 => Or.inl ⟨rfl, fun s hs => by omega⟩
  | n + 1 => by
    have ih := fo_b n
    simp only [fo]
    split
    · rename_i q
      refine Or.inr ⟨by omega, by omega, ?_, fun s hs hg => ?_⟩
      · rw [show ((n : Int)).toNat = n from by omega]
        exact ⟨q.1, q.2.2⟩
      · rw [show ((n : Int)).toNat = n from by omega]
        by_cases q2 : s = n
        · subst q2; exact Or.inr ⟨rfl, Nat.le_refl _⟩
        · rcases ih with ⟨h1, h2⟩ | ⟨h1, h2, h3, h4⟩
          · exact absurd hg (h2 s (by omega))
          · rcases q.2.1 with q3 | q3
            · omega
            · rcases h4 s (by omega) hg with h5 | h5
              · exact Or.inl (by omega)
              · exact Or.inl (by omega)
    · rename_i q
      rcases ih with ⟨h1, h2⟩ | ⟨h1, h2, h3, h4⟩
      · refine Or.inl ⟨h1, fun s hs hg => ?_⟩
        by_cases q2 : s = n
        · subst q2; exact q ⟨hg.1, Or.inl h1, hg.2⟩
        · exact h2 s (by omega) hg
      · refine Or.inr ⟨h1, by omega, h3, fun s hs hg => ?_⟩
        by_cases q2 : s = n
        · subst q2
          by_cases q3 : fr_c s 12 < fr_c (fo Y far s).toNat 12
          · exact absurd ⟨hg.1, Or.inr q3, hg.2⟩ q
          · by_cases q4 : fr_c (fo Y far s).toNat 12 = fr_c s 12
            · exact Or.inr ⟨q4, by omega⟩
            · exact Or.inl (by omega)
        · exact h4 s (by omega) hg
theorem w_all (hf : 0 ≤ far) : w_g Y far (f_ins Y) := by
  refine ⟨Nat.and_self _, b_ext (fun i => ?_)⟩
  rw [w_W_t]
  constructor
  · rintro ⟨o, h1, h2, h3, h4⟩
    exact (f_ins_t i).2 ⟨h3, (w_n_in h4).2⟩
  · intro h
    have h2 := (f_ins_t i).1 h
    exact ⟨i, h2.1, h, h2.1, w_n_self hf h2.2⟩
theorem w_f_g {T l : Nat} : w_f Y far 12 0 l T ↔ w_g Y far T ∧ fr_c T 12 ≤ l := by
  unfold w_f w_g
  rw [Nat.zero_or, w_sub]
  constructor
  · rintro ⟨h1, h2, h3, h4⟩
    refine ⟨⟨fun i h => ⟨?_, h2 i h⟩, h4⟩, h3⟩
    apply Classical.byContradiction
    intro h9
    rw [n_tb h1 (by omega)] at h
    cases h
  · rintro ⟨⟨h2, h4⟩, h3⟩
    refine ⟨?_, fun i h => (h2 i h).2, h3, h4⟩
    have := w_sub_le ((w_sub T).2 h2)
    have := f_ins_lt (Y := Y)
    omega
/-- both find the same -/
theorem cw_fo (hf : 0 ≤ far) : ∀ (j m : Nat), m + j = 13 → (∀ m' : Nat, m' < m → ∀ T, ¬ (w_g Y far T ∧ fr_c T 12 ≤ m')) → cw_top Y far j m = some (fr_c (fo Y far (f_ins Y + 1)).toNat 12, (fo Y far (f_ins Y + 1)).toNat)
  | 0, m, hm, hn => by
    exfalso
    exact hn 12 (by omega) (f_ins Y) ⟨w_all hf, fr_c_le _ 12⟩
  | j + 1, m, hm, hn => by
    simp only [cw_top]
    have g := cw_ok (Y := Y) hf 12 (Nat.le_refl 12) 0 m
    cases h : cw Y far 12 0 m with
    | none =>
      have g2 := g.2 h
      refine cw_fo hf j (m + 1) (by omega) (fun m' hm' T hT => ?_)
      by_cases q : m' = m
      · subst q; exact g2 T (w_f_g.2 hT)
      · exact hn m' (by omega) T hT
    | some T =>
      have g1 := g.1 T h
      have gT := w_f_g.1 g1.1
      have Tle : T ≤ f_ins Y := w_sub_le gT.1.1
      rcases fo_b (Y := Y) (far := far) (f_ins Y + 1) with ⟨_, h2⟩ | ⟨h1, h2, h3, h4⟩
      · exact absurd gT.1 (h2 T (by omega))
      · have c1 := h4 T (by omega) gT.1
        have c2 : m ≤ fr_c (fo Y far (f_ins Y + 1)).toNat 12 := by
          apply Classical.byContradiction
          intro h9
          exact hn (fr_c (fo Y far (f_ins Y + 1)).toNat 12) (by omega) _ ⟨h3, Nat.le_refl _⟩
        have c3 : m ≤ fr_c T 12 := by
          apply Classical.byContradiction
          intro h9
          exact hn (fr_c T 12) (by omega) _ ⟨gT.1, Nat.le_refl _⟩
        have c4 := g1.2 (fo Y far (f_ins Y + 1)).toNat (w_f_g.2 ⟨h3, by omega⟩)
        have e1 : T = (fo Y far (f_ins Y + 1)).toNat := by omega
        have e2 : m = fr_c (fo Y far (f_ins Y + 1)).toNat 12 := by omega
        simp only []
        rw [← e2, ← e1]
end
def o_frost (S : zS) (far : Int) : Int × zS := if 0 ≤ far ∧ far ≤ 12 then ((fr_c (fo S.1 far (f_ins S.1 + 1)).toNat 12 : Int), sR S [((fo S.1 far (f_ins S.1 + 1)).toNat : Int)]) else (-1, S)
