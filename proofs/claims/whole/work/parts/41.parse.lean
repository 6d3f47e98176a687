-- needs 20.walks 30 34 38
/-! THE TEXT READ: H i is the sign at place i (-1: none) -/
abbrev zRes : Type := Int × List Int × Bool
def p_join (c l : Int) : Int := if c = 124 then (if l = 0 then -11 else 0) else if c = 38 then (if l = 1 then -12 else 0) else if c = 60 then (if l = 2 then -13 else 0) else if c = 62 then (if l = 2 then -14 else 0) else if c = 61 then (if l = 2 then -15 else 0) else if c = 43 then (if l = 3 then -16 else 0) else if c = 45 then (if l = 3 then -17 else 0) else 0
def p_more (H : Int → Int) (l : Int) (sub : Int → zRes) : Nat → Int → List Int → zRes
  | 0, a, c => (a, c, true)
  | k + 1, a, c => if p_join (H a) l = 0 then (a, c, true) else match sub (a + 1) with
    | (a', c', true) => p_more H l sub k a' (c ++ c' ++ [p_join (H a) l])
    | (a', c', false) => (a', c ++ c', false)
def p_most (l : Int) : Nat := if l = 2 then 1 else 40
def p_level (H : Int → Int) (l : Int) (sub : Int → zRes) (a : Int) : zRes := match sub a with
  | (a', c', true) => p_more H l sub (p_most l) a' c'
  | (a', c', false) => (a', c', false)
def p_dig (c : Int) : Prop := 48 ≤ c ∧ c ≤ 57
def p_num (H : Int → Int) : Nat → Int → Int → Int × Int
  | 0, a, v => (a, v)
  | k + 1, a, v => if 48 ≤ H a ∧ H a ≤ 57 then p_num H k (a + 1) (v * 10 + H a - 48) else (a, v)
def p_letter (c : Int) : Int := if c = 108 then 0 else if c = 99 then 1 else if c = 118 then 2 else if c = 100 then 3 else if c = 115 then 4 else if c = 110 then 5 else if c = 98 then 6 else if c = 104 then 7 else -1
def p_core (H : Int → Int) (sub : Int → zRes) (deep : Bool) (a : Int) : zRes :=
  if 48 ≤ H a ∧ H a ≤ 57 then ((p_num H 3 a 0).1, [(p_num H 3 a 0).2], true)
  else if H a = 40 then (match deep with
    | true => match sub (a + 1) with
      | (a', c', true) => if H a' = 41 then (a' + 1, c', true) else (a', c', false)
      | (a', c', false) => (a', c', false)
    | false => (a, [], false))
  else if p_letter (H a) = -1 then (a, [], false) else (a + 1, [-1 - p_letter (H a)], true)
def p_app (x : Int) (q : zRes) : zRes := match q with
  | (a, c, true) => (a, c ++ [x], true)
  | (a, c, false) => (a, c, false)
def p_thing (H : Int → Int) (sub : Int → zRes) (deep : Bool) : Nat → Int → zRes
  | 0, a => p_core H sub deep a
  | k + 1, a => if H a = 33 then p_app (-9) (p_thing H sub deep k (a + 1)) else if H a = 45 then p_app (-10) (p_thing H sub deep k (a + 1)) else p_core H sub deep a
/-- r = 5 * (5 - depth) + (4 - level) -/
def p_r (H : Int → Int) : Nat → Int → zRes
  | 0 => p_thing H (fun a => (a, [], false)) false 41
  | r + 1 => if (r + 1) % 5 = 0 then p_thing H (p_r H r) true 41 else p_level H (4 - ((r + 1) % 5 : Nat)) (p_r H r)
/-! how far it comes, how much it writes -/
def p_fit (H : Int → Int) (m : Int) (f : Int → zRes) : Prop := ∀ a, 0 ≤ a ∧ a ≤ m → a ≤ (f a).1 ∧ (f a).1 ≤ m ∧ ((f a).2.1.length : Int) ≤ (f a).1 - a ∧ ((f a).2.2 = true → a < (f a).1)
section
variable {H : Int → Int} {m : Int} {sub : Int → zRes} {l : Int} {deep : Bool}
theorem p_more_fit (hH : ∀ i, m ≤ i → H i = -1) (hs : p_fit H m sub) : ∀ (k : Nat) (a : Int) (c : List Int) (b : Int), 0 ≤ b → b ≤ a ∧ a ≤ m → (c.length : Int) ≤ a - b → a ≤ (p_more H l sub k a c).1 ∧ (p_more H l sub k a c).1 ≤ m ∧ ((p_more H l sub k a c).2.1.length : Int) ≤ (p_more H l sub k a c).1 - b
  | 0, a, c, b, hb, h1, h2 => by simp only [p_more]; omega
  | k + 1, a, c, b, hb, h1, h2 => by
    simp only [p_more]
    by_cases q : p_join (H a) l = 0
    · rw [if_pos q]; simp only []; omega
    · rw [if_neg q]
      have ham : a < m := by
        by_cases q2 : m ≤ a
        · rw [hH a q2] at q
          exact absurd (by simp [p_join]) q
        · omega
      have h3 := hs (a + 1) (by omega)
      generalize hq : sub (a + 1) = r at *
      obtain ⟨a', c', ok⟩ := r
      cases ok
      · simp only [List.length_append]
        simp only [] at h3
        omega
      · simp only []
        simp only [] at h3
        have := p_more_fit hH hs k a' (c ++ c' ++ [p_join (H a) l]) b hb (by omega) (by simp only [List.length_append, List.length_cons, List.length_nil]; omega)
        omega
theorem p_level_fit (hH : ∀ i, m ≤ i → H i = -1) (hs : p_fit H m sub) : p_fit H m (p_level H l sub) := by
  intro a ha
  have h3 := hs a ha
  simp only [p_level]
  generalize hq : sub a = r at *
  obtain ⟨a', c', ok⟩ := r
  cases ok
  · simp only [] at h3 ⊢
    exact ⟨h3.1, h3.2.1, h3.2.2.1, fun q => by cases q⟩
  · simp only [] at h3 ⊢
    have := p_more_fit (l := l) hH hs (p_most l) a' c' a ha.1 (by omega) (by omega)
    have := h3.2.2.2 trivial
    omega
theorem p_num_fit (hH : ∀ i, m ≤ i → H i = -1) : ∀ (k : Nat) (a v : Int), 0 ≤ a ∧ a ≤ m → a ≤ (p_num H k a v).1 ∧ (p_num H k a v).1 ≤ m
  | 0, a, v, h => by simp only [p_num]; omega
  | k + 1, a, v, h => by
    simp only [p_num]
    by_cases q : 48 ≤ H a ∧ H a ≤ 57
    · rw [if_pos q]
      have ham : a < m := by
        by_cases q2 : m ≤ a
        · rw [hH a q2] at q; omega
        · omega
      have := p_num_fit hH k (a + 1) (v * 10 + H a - 48) (by omega)
      omega
    · rw [if_neg q]; simp only []; omega
theorem p_core_fit (hH : ∀ i, m ≤ i → H i = -1) (hs : p_fit H m sub) : p_fit H m (p_core H sub deep) := by
  intro a ha
  have nm : ¬ H a = -1 → a < m := by
    intro q
    by_cases q2 : m ≤ a
    · exact absurd (hH a q2) q
    · omega
  simp only [p_core]
  by_cases q : 48 ≤ H a ∧ H a ≤ 57
  · rw [if_pos q]
    have ham := nm (by omega)
    have h1 := p_num_fit hH 2 (a + 1) (0 * 10 + H a - 48) (by omega)
    have e : p_num H 3 a 0 = p_num H 2 (a + 1) (0 * 10 + H a - 48) := by
      show (if 48 ≤ H a ∧ H a ≤ 57 then p_num H 2 (a + 1) (0 * 10 + H a - 48) else (a, 0)) = _
      rw [if_pos q]
    rw [e]
    simp only [List.length_cons, List.length_nil]
    omega
  · rw [if_neg q]
    by_cases q2 : H a = 40
    · rw [if_pos q2]
      have ham := nm (by omega)
      cases deep
      · simp only [List.length_nil]
        exact ⟨by omega, by omega, by omega, fun q => by cases q⟩
      · simp only []
        have h3 := hs (a + 1) (by omega)
        generalize hq : sub (a + 1) = r at *
        obtain ⟨a', c', ok⟩ := r
        cases ok
        · simp only [] at h3 ⊢
          exact ⟨by omega, by omega, by omega, fun q => by cases q⟩
        · simp only [] at h3 ⊢
          by_cases q3 : H a' = 41
          · rw [if_pos q3]
            have : a' < m := by
              by_cases q4 : m ≤ a'
              · have := hH a' q4; omega
              · omega
            simp only []
            omega
          · rw [if_neg q3]
            simp only []
            exact ⟨by omega, by omega, by omega, fun q => by cases q⟩
    · rw [if_neg q2]
      by_cases q3 : p_letter (H a) = -1
      · rw [if_pos q3]
        simp only [List.length_nil]
        exact ⟨by omega, by omega, by omega, fun q => by cases q⟩
      · rw [if_neg q3]
        have ham := nm (by intro q4; rw [q4] at q3; exact q3 (by simp [p_letter]))
        simp only [List.length_cons, List.length_nil]
        omega
theorem p_app_1 (x : Int) (q : zRes) : (p_app x q).1 = q.1 := by
  obtain ⟨a, c, ok⟩ := q
  cases ok <;> rfl
theorem p_app_3 (x : Int) (q : zRes) : (p_app x q).2.2 = q.2.2 := by
  obtain ⟨a, c, ok⟩ := q
  cases ok <;> rfl
theorem p_app_len (x : Int) (q : zRes) : ((p_app x q).2.1.length : Int) ≤ q.2.1.length + 1 := by
  obtain ⟨a, c, ok⟩ := q
  cases ok
  · simp only [p_app]; omega
  · simp only [p_app, List.length_append, List.length_cons, List.length_nil]; omega
theorem p_thing_fit (hH : ∀ i, m ≤ i → H i = -1) (hs : p_fit H m sub) : ∀ k : Nat, p_fit H m (p_thing H sub deep k)
  | 0 => p_core_fit hH hs
  | k + 1 => by
    intro a ha
    have nm : ¬ H a = -1 → a < m := by
      intro q
      by_cases q2 : m ≤ a
      · exact absurd (hH a q2) q
      · omega
    simp only [p_thing]
    by_cases q : H a = 33
    · rw [if_pos q]
      have h3 := p_thing_fit hH hs k (a + 1) (by have := nm (by omega); omega)
      rw [p_app_1, p_app_3]
      have := p_app_len (-9) (p_thing H sub deep k (a + 1))
      exact ⟨by omega, by omega, by omega, fun _ => by omega⟩
    · rw [if_neg q]
      by_cases q2 : H a = 45
      · rw [if_pos q2]
        have h3 := p_thing_fit hH hs k (a + 1) (by have := nm (by omega); omega)
        rw [p_app_1, p_app_3]
        have := p_app_len (-10) (p_thing H sub deep k (a + 1))
        exact ⟨by omega, by omega, by omega, fun _ => by omega⟩
      · rw [if_neg q2]
        exact p_core_fit hH hs a ha
theorem p_r_fit (hH : ∀ i, m ≤ i → H i = -1) : ∀ r : Nat, p_fit H m (p_r H r)
  | 0 => by
    have h0 : p_fit H m (fun a => (a, [], false)) := fun a ha => ⟨by simp only []; omega, ha.2, by simp only [List.length_nil]; omega, fun q => by cases q⟩
    exact p_thing_fit hH h0 41
  | r + 1 => by
    have ih := p_r_fit hH r
    simp only [p_r]
    by_cases q : (r + 1) % 5 = 0
    · rw [if_pos q]; exact p_thing_fit hH ih 41
    · rw [if_neg q]; exact p_level_fit hH ih
end
/-! what the code does -/
def p_run (L : Int → Int) (q : (Int → Int) × Int) (c : List Int) : (Int → Int) × Int := c.foldl (r_step L) q
/-- the code lays one number on the stack -/
def p_is (L : Int → Int) (c : List Int) (v : Int) : Prop := ∀ (S : Int → Int) (h : Int), (p_run L (S, h) c).2 = h + 1 ∧ (p_run L (S, h) c).1 h = v ∧ ∀ k, k < h → (p_run L (S, h) c).1 k = S k
def p_good : Int → List Int → Int → Prop
  | h, [], h' => h = h'
  | h, x :: xs, h' => ((-17 ≤ x ∧ x ≤ 999) ∧ 0 ≤ h ∧ (x ≤ -9 → 1 ≤ h) ∧ (x ≤ -11 → 2 ≤ h)) ∧ p_good (if -9 < x then h + 1 else if -11 < x then h else h - 1) xs h'
section
variable {L : Int → Int} {c c' : List Int} {v v' x : Int}
theorem p_run_app (q : (Int → Int) × Int) : p_run L q (c ++ c') = p_run L (p_run L q c) c' := List.foldl_append
theorem p_is_num (h : 0 ≤ x) : p_is L [x] x := by
  intro S k
  have : p_run L (S, k) [x] = (r_upd S k x, k + 1) := by
    show r_step L (S, k) x = _
    simp only [r_step]
    rw [if_pos (by omega), if_pos h]
  rw [this]
  refine ⟨rfl, by simp [r_upd], fun j hj => ?_⟩
  simp only [r_upd]; rw [if_neg (by omega)]
theorem p_is_let (h : 0 ≤ x ∧ x < 8) : p_is L [-1 - x] (L x) := by
  intro S k
  have : p_run L (S, k) [-1 - x] = (r_upd S k (L x), k + 1) := by
    show r_step L (S, k) (-1 - x) = _
    simp only [r_step]
    rw [if_pos (by omega), if_neg (by omega), show -1 - (-1 - x) = x from by omega]
  rw [this]
  refine ⟨rfl, by simp [r_upd], fun j hj => ?_⟩
  simp only [r_upd]; rw [if_neg (by omega)]
theorem p_is_not (h : p_is L c v) : p_is L (c ++ [-9]) (if v = 0 then 1 else 0) := by
  intro S k
  obtain ⟨h1, h2, h3⟩ := h S k
  rw [p_run_app]
  generalize p_run L (S, k) c = q at *
  obtain ⟨T, j⟩ := q
  simp only [] at h1 h2 h3
  subst h1
  have : p_run L (T, k + 1) [-9] = (r_upd T k (if T k = 0 then 1 else 0), k + 1) := by
    show r_step L (T, k + 1) (-9) = _
    simp only [r_step]
    rw [if_neg (by omega), if_pos trivial, show k + 1 - 1 = k from by omega]
  rw [this]
  refine ⟨rfl, by simp [r_upd, h2], fun j hj => ?_⟩
  simp only [r_upd]; rw [if_neg (by omega), h3 j hj]
theorem p_is_neg (h : p_is L c v) : p_is L (c ++ [-10]) (zw (-v)) := by
  intro S k
  obtain ⟨h1, h2, h3⟩ := h S k
  rw [p_run_app]
  generalize p_run L (S, k) c = q at *
  obtain ⟨T, j⟩ := q
  simp only [] at h1 h2 h3
  subst h1
  have : p_run L (T, k + 1) [-10] = (r_upd T k (zw (-(T k))), k + 1) := by
    show r_step L (T, k + 1) (-10) = _
    simp only [r_step]
    rw [if_neg (by omega), if_neg (by omega), if_pos trivial, show k + 1 - 1 = k from by omega]
  rw [this]
  refine ⟨rfl, by simp [r_upd, h2], fun j hj => ?_⟩
  simp only [r_upd]; rw [if_neg (by omega), h3 j hj]
theorem p_is_bin (hx : -17 ≤ x ∧ x ≤ -11) (h : p_is L c v) (h' : p_is L c' v') : p_is L (c ++ c' ++ [x]) (r_bin x v v') := by
  intro S k
  obtain ⟨h1, h2, h3⟩ := h S k
  rw [p_run_app, p_run_app]
  generalize p_run L (S, k) c = q at *
  obtain ⟨T, j⟩ := q
  simp only [] at h1 h2 h3
  subst h1
  obtain ⟨g1, g2, g3⟩ := h' T (k + 1)
  generalize p_run L (T, k + 1) c' = q at *
  obtain ⟨T', j'⟩ := q
  simp only [] at g1 g2 g3
  subst g1
  have g4 := g3 k (by omega)
  have : p_run L (T', k + 1 + 1) [x] = (r_upd T' k (r_bin x (T' k) (T' (k + 1))), k + 1) := by
    show r_step L (T', k + 1 + 1) x = _
    simp only [r_step]
    rw [if_neg (by omega), if_neg (by omega), if_neg (by omega), show k + 1 + 1 - 2 = k from by omega, show k + 1 + 1 - 1 = k + 1 from by omega]
  rw [this]
  refine ⟨rfl, by simp [r_upd, g4, h2, g2], fun j hj => ?_⟩
  simp only [r_upd]; rw [if_neg (by omega), g3 j (by omega), h3 j hj]
theorem p_good_app : ∀ (c c' : List Int) (a b e : Int), p_good a c b → p_good b c' e → p_good a (c ++ c') e
  | [], c', a, b, e, h, h' => by
    simp only [p_good] at h
    subst h
    exact h'
  | x :: xs, c', a, b, e, h, h' => by
    simp only [p_good, List.cons_append] at h ⊢
    exact ⟨h.1, p_good_app xs c' _ b e h.2 h'⟩
end
/-- right code, from any height -/
def p_fine (c : List Int) : Prop := ∀ h, 0 ≤ h → p_good h c (h + 1)
section
variable {L : Int → Int} {c c' : List Int} {v v' x : Int}
theorem p_fine_one (hx : -9 < x ∧ x ≤ 999) : p_fine [x] := by
  intro h hh
  simp only [p_good]
  exact ⟨⟨by omega, by omega, by omega, by omega⟩, by rw [if_pos hx.1]⟩
theorem p_fine_un (hx : x = -9 ∨ x = -10) (hc : p_fine c) : p_fine (c ++ [x]) := by
  intro h hh
  refine p_good_app c [x] h (h + 1) (h + 1) (hc h hh) ?_
  simp only [p_good]
  exact ⟨⟨by omega, by omega, by omega, by omega⟩, by rw [if_neg (by omega), if_pos (by omega)]⟩
theorem p_fine_bin (hx : -17 ≤ x ∧ x ≤ -11) (hc : p_fine c) (hc' : p_fine c') : p_fine (c ++ c' ++ [x]) := by
  intro h hh
  refine p_good_app (c ++ c') [x] h (h + 1 + 1) (h + 1) (p_good_app c c' h (h + 1) _ (hc h hh) (hc' _ (by omega))) ?_
  simp only [p_good]
  exact ⟨⟨by omega, by omega, by omega, by omega⟩, by rw [if_neg (by omega), if_neg (by omega)]; omega⟩
end
/-- code that lies in cells -/
def p_lies (co : Int → Int) (n : Nat) (c : List Int) : Prop := c.length = n ∧ ∀ i : Nat, i < n → co i = c.getD i 0
theorem p_run_go (L co S : Int → Int) (c : List Int) (n : Nat) (h : p_lies co n c) : p_run L (S, 0) c = r_go L co S n := by
  have key : ∀ i : Nat, i ≤ n → p_run L (S, 0) (c.take i) = r_go L co S i := by
    intro i
    induction i with
    | zero => intro _; rfl
    | succ i ih =>
      intro hi
      have e : c.take (i + 1) = c.take i ++ [c.getD i 0] := by
        rw [List.take_add_one]
        congr 1
        rw [List.getD_eq_getElem?_getD, List.getElem?_eq_getElem (by have := h.1; omega)]
        rfl
      rw [e, p_run_app, ih (by omega)]
      simp only [r_go]
      rw [h.2 i (by omega)]
      rfl
  have := key n (Nat.le_refl _)
  rwa [List.take_of_length_le (by have := h.1; omega)] at this
theorem p_good_ok (co : Int → Int) (c : List Int) (n : Nat) (h : p_lies co n c) (hg : p_good 0 c 1) (hn : n ≤ 40) : r_ok co n := by
  have key : ∀ (xs : List Int) (i : Nat) (e : Int), i + xs.length = n → (∀ j : Nat, j < xs.length → co (i + j : Nat) = xs.getD j 0) → p_good (r_dep co i) xs e → r_dep co n = e ∧ ∀ j : Nat, i ≤ j → j < n → (-17 ≤ co j ∧ co j ≤ 999) ∧ 0 ≤ r_dep co j ∧ (co j ≤ -9 → 1 ≤ r_dep co j) ∧ (co j ≤ -11 → 2 ≤ r_dep co j) := by
    intro xs
    induction xs with
    | nil =>
      intro i e hi _ hg
      simp only [List.length_nil, p_good] at hi hg
      have : i = n := by omega
      subst this
      exact ⟨hg, fun j h1 h2 => by omega⟩
    | cons x xs ih =>
      intro i e hi hc hg
      simp only [List.length_cons] at hi hc
      have c0 := hc 0 (by omega)
      simp only [Nat.add_zero, List.getD_cons_zero] at c0
      simp only [p_good] at hg
      have d1 : r_dep co (i + 1) = if -9 < x then r_dep co i + 1 else if -11 < x then r_dep co i else r_dep co i - 1 := by
        simp only [r_dep, c0]
      have := ih (i + 1) e (by omega) (fun j hj => by
        have := hc (j + 1) (by omega)
        rw [List.getD_cons_succ] at this
        rw [← this]
        congr 2
        omega) (by rw [d1]; exact hg.2)
      refine ⟨this.1, fun j h1 h2 => ?_⟩
      by_cases hj : j = i
      · subst hj; rw [c0]; exact hg.1
      · exact this.2 j (by omega) h2
  have := key c 0 1 (by have := h.1; omega) (fun j hj => by rw [Nat.zero_add]; exact h.2 j (by have := h.1; omega)) hg
  exact ⟨hn, this.1, fun i hi => this.2 i (by omega) hi⟩
