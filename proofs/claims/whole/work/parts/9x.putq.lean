-- needs 9w
/-! put: the class's table, stall by stall -/
theorem ex_least {p : Nat → Prop} : ∀ n : Nat, p n → ∃ i, p i ∧ i ≤ n ∧ ∀ i', i' < i → ¬ p i'
  | 0, h => ⟨0, h, Nat.le_refl _, fun i' hi' => by omega⟩
  | n + 1, h => by
    by_cases q : ∃ k, k < n + 1 ∧ p k
    · obtain ⟨k, hk, hp⟩ := q
      have key : ∀ m : Nat, m ≤ n → p m → ∃ i, p i ∧ i ≤ m ∧ ∀ i', i' < i → ¬ p i' := by
        intro m
        induction m using Nat.strongRecOn with
        | ind m ih =>
          intro hm hp
          by_cases q2 : ∃ k, k < m ∧ p k
          · obtain ⟨k2, hk2, hp2⟩ := q2
            obtain ⟨i, a, b, c⟩ := ih k2 hk2 (by omega) hp2
            exact ⟨i, a, by omega, c⟩
          · exact ⟨m, hp, Nat.le_refl _, fun i' hi' hp' => q2 ⟨i', hi', hp'⟩⟩
      obtain ⟨i, a, b, c⟩ := key k (by omega) hp
      exact ⟨i, a, by omega, c⟩
    · exact ⟨n + 1, h, Nat.le_refl _, fun i' hi' hp' => q ⟨i', hi', hp'⟩⟩
def pt_P (Q : zPt) (j : Nat) (a : Nat → Int) : Prop := ∀ i, i < pt_m Q → a i = -1 ∨ pt_C Q a j i
def pt_S (Q : zPt) (a : Nat → Int) (h : Nat) : Prop := h < 2 ^ pt_m Q ∧ ∀ i, i < pt_m Q → (h.testBit i = true ↔ ¬ a i = -1)
def pt_I (Q : zPt) (j : Nat) (b : Nat → Int) : Prop := (∀ a h, pt_P Q j a → pt_S Q a h → b h ≤ pt_cost Q a) ∧ ∀ h, h < 2 ^ pt_m Q → b h < 1152921504606846976 → ∃ a, pt_P Q j a ∧ pt_S Q a h ∧ pt_cost Q a = b h
/-- who may be put to a stall together, and what it costs -/
def pt_k (Q : zPt) (j bits : Nat) (w : Int) : Prop := (∃ i, i < pt_m Q ∧ pt_B Q i j = true ∧ bits = 2 ^ i ∧ w = pt_ct Q i (j : Int)) ∨ ∃ i i', i < i' ∧ i' < pt_m Q ∧ pt_B Q i j = true ∧ pt_F Q i' j = true ∧ pt_G Q i i' j = true ∧ bits = 2 ^ i ||| 2 ^ i' ∧ w = pt_ct Q i (j : Int) + pt_ct Q i' (j : Int)
def pt_dj (sub bits : Nat) : Prop := ∀ i, sub.testBit i = true → bits.testBit i = false
def pt_rel (Q : zPt) (j : Nat) (pr : Nat → Int → Prop) (b b' : Nat → Int) : Prop := ∀ h, h < 2 ^ pt_m Q → b' h ≤ b h ∧ (∀ sub bits w, pr bits w → pt_k Q j bits w → sub < 2 ^ pt_m Q → pt_dj sub bits → h = sub ||| bits → b' h ≤ b sub + w) ∧ (b' h = b h ∨ ∃ sub bits w, pt_k Q j bits w ∧ sub < 2 ^ pt_m Q ∧ pt_dj sub bits ∧ h = sub ||| bits ∧ b' h = b sub + w)
theorem pt_tr1 {Q : zPt} {a a' : Nat → Int} {j i : Nat} (hm : i < pt_m Q) (e : ∀ x, x < pt_m Q → (¬ a x = (j : Int) ∧ a' x = a x) ∨ (a x = (j : Int) ∧ a' x = -1)) (h : pt_C Q a (j + 1) i) (hi : ¬ a i = (j : Int)) : pt_C Q a' j i := by
  obtain ⟨s, hs, ha, hor⟩ := h
  have ai : a' i = a i := by rcases e i hm with q | q <;> omega
  have ne : ∀ i', i' < i → ¬ a i' = a i → ¬ a' i' = a' i := fun i' hi' hne => by
    rcases e i' (by omega) with q | q
    · rw [q.2, ai]; exact hne
    · omega
  refine ⟨s, by omega, by rw [ai]; exact ha, ?_⟩
  rcases hor with ⟨h1, h2⟩ | ⟨i1, h1, h2, h3, h4, h5⟩
  · exact Or.inl ⟨fun i' hi' => ne i' hi' (h1 i' hi'), h2⟩
  · refine Or.inr ⟨i1, h1, ?_, fun i' hi' hne => ne i' hi' (h3 i' hi' hne), h4, h5⟩
    rcases e i1 (by omega) with q | q <;> omega
theorem pt_tr2 {Q : zPt} {a a' : Nat → Int} {j i : Nat} (e : ∀ x, a x = a' x ∨ (a x = (j : Int) ∧ a' x = -1)) (h : pt_C Q a' j i) : pt_C Q a (j + 1) i := by
  obtain ⟨s, hs, ha, hor⟩ := h
  have ai : a i = a' i := by rcases e i with q | ⟨_, q⟩ <;> omega
  have ne : ∀ i', ¬ a' i' = a' i → ¬ a i' = a i := fun i' hne => by
    rcases e i' with q | ⟨q, _⟩
    · rw [q, ai]; exact hne
    · omega
  refine ⟨s, by omega, by rw [ai]; exact ha, ?_⟩
  rcases hor with ⟨h1, h2⟩ | ⟨i1, h1, h2, h3, h4, h5⟩
  · exact Or.inl ⟨fun i' hi' => ne i' (h1 i' hi'), h2⟩
  · refine Or.inr ⟨i1, h1, ?_, fun i' hi' hne => ne i' (h3 i' hi' hne), h4, h5⟩
    rcases e i1 with q | ⟨_, q⟩ <;> omega
theorem pt_cost_u {Q : zPt} {a : Nat → Int} {t : Nat} {c : Int} (ht : t < pt_m Q) : pt_cost Q (fun x => if x = t then c else a x) = pt_cost Q a - pt_ct Q t (a t) + pt_ct Q t c := by
  have := su_upd (F := fun x => pt_ct Q x (a x)) (G := fun x => pt_ct Q x (if x = t then c else a x)) (t := t) (fun t' q => by rw [if_neg q]) (pt_m Q) 0 (by omega) (by omega)
  simp only [if_pos rfl] at this
  exact this
theorem pt_ct_n (Q : zPt) (i : Nat) : pt_ct Q i (-1) = 0 := if_pos rfl
theorem pt_sub {h bits m : Nat} (h1 : h < 2 ^ m) (h2 : bits < 2 ^ m) (h3 : ∀ u, bits.testBit u = true → h.testBit u = true) : (h ^^^ bits) < 2 ^ m ∧ pt_dj (h ^^^ bits) bits ∧ h = (h ^^^ bits) ||| bits := by
  refine ⟨Nat.xor_lt_two_pow h1 h2, fun u hu => ?_, Nat.eq_of_testBit_eq fun u => ?_⟩
  · rw [Nat.testBit_xor] at hu
    have := h3 u
    revert hu this
    cases h.testBit u <;> cases bits.testBit u <;> simp
  · rw [Nat.testBit_or, Nat.testBit_xor]
    have := h3 u
    revert this
    cases h.testBit u <;> cases bits.testBit u <;> simp
theorem pt_S_sub {Q : zPt} {a a' : Nat → Int} {h bits : Nat} (hS : pt_S Q a h) (h2 : bits < 2 ^ pt_m Q) (e : ∀ x, x < pt_m Q → (bits.testBit x = true ∧ ¬ a x = -1 ∧ a' x = -1) ∨ (bits.testBit x = false ∧ a' x = a x)) : pt_S Q a' (h ^^^ bits) := by
  refine ⟨Nat.xor_lt_two_pow hS.1 h2, fun u hu => ?_⟩
  have g := hS.2 u hu
  rw [Nat.testBit_xor]
  rcases e u hu with ⟨e1, e2, e3⟩ | ⟨e1, e2⟩
  · rw [e1, e3, g.2 e2]
    simp
  · rw [e1, e2, Bool.xor_false]
    exact g
theorem pt_S_add {Q : zPt} {a a' : Nat → Int} {h bits : Nat} (hS : pt_S Q a' h) (h2 : bits < 2 ^ pt_m Q) (e : ∀ x, x < pt_m Q → (bits.testBit x = true ∧ ¬ a x = -1) ∨ (bits.testBit x = false ∧ a x = a' x)) : pt_S Q a (h ||| bits) := by
  refine ⟨Nat.or_lt_two_pow hS.1 h2, fun u hu => ?_⟩
  have g := hS.2 u hu
  rw [Nat.testBit_or]
  rcases e u hu with ⟨e1, e2⟩ | ⟨e1, e2⟩
  · rw [e1]
    simp [e2]
  · rw [e1, e2, Bool.or_false]
    exact g
theorem pt_b1 (i u : Nat) : (2 ^ i).testBit u = decide (i = u) := Nat.testBit_two_pow
theorem pt_b2 (i i' u : Nat) : (2 ^ i ||| 2 ^ i').testBit u = (decide (i = u) || decide (i' = u)) := by rw [Nat.testBit_or, pt_b1, pt_b1]
theorem pt_I_step1 {Q : zPt} {j : Nat} {b b' : Nat → Int} (hI : pt_I Q j b) (hr : pt_rel Q j (fun _ _ => True) b b') {a : Nat → Int} {h : Nat} (ha : pt_P Q (j + 1) a) (hS : pt_S Q a h) : b' h ≤ pt_cost Q a := by
  obtain ⟨i1, i2⟩ := hI
  obtain ⟨r1, r2, _⟩ := hr h hS.1
  by_cases q : ∃ i, i < pt_m Q ∧ a i = (j : Int)
  · obtain ⟨ix, hix, ejx⟩ := q
    obtain ⟨i0, ej0, hle, hleast⟩ := ex_least (p := fun i => a i = (j : Int)) ix ejx
    have hi0 : i0 < pt_m Q := by omega
    have B0 : pt_B Q i0 j = true := by
      rcases ha i0 hi0 with g | ⟨s, _, hs, hor⟩
      · omega
      · obtain rfl : s = j := by omega
        rcases hor with ⟨_, hB⟩ | ⟨k, hk, ek, _⟩
        · exact hB
        · exact absurd (by rw [ek]; exact ej0) (hleast k hk)
    have tb : ∀ i, i < pt_m Q → ¬ a i = -1 → h.testBit i = true := fun i hi hne => (hS.2 i hi).2 hne
    have e2 : 2 ^ i0 < 2 ^ pt_m Q := Nat.pow_lt_pow_right (by omega) hi0
    by_cases q2 : ∃ i, i < pt_m Q ∧ ¬ i = i0 ∧ a i = (j : Int)
    · obtain ⟨i1', hi1, hne1, ej1⟩ := q2
      have lt1 : i0 < i1' := by
        rcases Nat.lt_or_ge i1' i0 with z | z
        · exact absurd ej1 (hleast i1' z)
        · omega
      obtain ⟨s, _, hs, hor⟩ : pt_C Q a (j + 1) i1' := by
        rcases ha i1' hi1 with g | g
        · omega
        · exact g
      obtain rfl : s = j := by omega
      have FG : pt_F Q i1' s = true ∧ pt_G Q i0 i1' s = true ∧ ∀ i', i' < i1' → ¬ i' = i0 → ¬ a i' = (s : Int) := by
        rcases hor with ⟨hno, _⟩ | ⟨k, hk, ek, hu, hF, hG⟩
        · exact absurd (by rw [ej1]; exact ej0) (hno i0 lt1)
        · have e : k = i0 := by
            by_cases z : i0 = k
            · exact z.symm
            · exact absurd (by rw [ej1]; exact ej0) (hu i0 lt1 z)
          subst e
          exact ⟨hF, hG, fun i' a1 a2 => by rw [← ej1]; exact hu i' a1 a2⟩
      have only : ∀ i, i < pt_m Q → a i = (s : Int) → i = i0 ∨ i = i1' := by
        intro i hi ei
        by_cases z0 : i = i0
        · exact Or.inl z0
        · by_cases z1 : i = i1'
          · exact Or.inr z1
          · rcases Nat.lt_or_ge i i1' with z | z
            · exact absurd ei (FG.2.2 i z z0)
            · obtain ⟨s', _, hs', hor'⟩ : pt_C Q a (s + 1) i := by
                rcases ha i hi with g | g
                · omega
                · exact g
              rcases hor' with ⟨hno, _⟩ | ⟨k, hk, ek, hu, _⟩
              · exact absurd (by rw [ei]; exact ej0) (hno i0 (by omega))
              · by_cases y0 : i0 = k
                · exact absurd (by rw [ei]; exact ej1) (hu i1' (by omega) (by omega))
                · exact absurd (by rw [ei]; exact ej0) (hu i0 (by omega) y0)
      have e3 : 2 ^ i1' < 2 ^ pt_m Q := Nat.pow_lt_pow_right (by omega) hi1
      obtain ⟨a', ea'⟩ : ∃ a' : Nat → Int, (fun x => if x = i1' then -1 else (fun x => if x = i0 then -1 else a x) x) = a' := ⟨_, rfl⟩
      have v1 : a' i1' = -1 := by rw [← ea']; exact if_pos rfl
      have v0 : a' i0 = -1 := by
        rw [← ea']
        show (if i0 = i1' then -1 else (if i0 = i0 then -1 else a i0)) = -1
        rw [if_neg (by omega), if_pos rfl]
      have vx : ∀ x, ¬ x = i0 → ¬ x = i1' → a' x = a x := fun x z0 z1 => by
        rw [← ea']
        show (if x = i1' then -1 else (if x = i0 then -1 else a x)) = a x
        rw [if_neg z1, if_neg z0]
      have Pa' : pt_P Q s a' := fun i hi => by
        by_cases z0 : i = i0
        · exact Or.inl (by rw [z0]; exact v0)
        · by_cases z1 : i = i1'
          · exact Or.inl (by rw [z1]; exact v1)
          · rcases ha i hi with g | g
            · exact Or.inl (by rw [vx i z0 z1]; exact g)
            · refine Or.inr (pt_tr1 hi (fun x hx => ?_) g (fun hh => by rcases only i hi hh with y | y <;> omega))
              by_cases y0 : x = i0
              · exact Or.inr ⟨by rw [y0]; exact ej0, by rw [y0]; exact v0⟩
              · by_cases y1 : x = i1'
                · exact Or.inr ⟨by rw [y1]; exact ej1, by rw [y1]; exact v1⟩
                · exact Or.inl ⟨fun hh => by rcases only x hx hh with y | y <;> omega, vx x y0 y1⟩
      have hb : (2 ^ i0 ||| 2 ^ i1') < 2 ^ pt_m Q := Nat.or_lt_two_pow e2 e3
      have hS' : pt_S Q a' (h ^^^ (2 ^ i0 ||| 2 ^ i1')) := pt_S_sub hS hb (fun x hx => by
        rw [pt_b2]
        by_cases y0 : x = i0
        · subst y0
          exact Or.inl ⟨by simp, by omega, v0⟩
        · by_cases y1 : x = i1'
          · subst y1
            exact Or.inl ⟨by simp, by omega, v1⟩
          · exact Or.inr ⟨by rw [decide_eq_false (fun z => y0 z.symm), decide_eq_false (fun z => y1 z.symm)]; rfl, vx x y0 y1⟩)
      obtain ⟨p1, p2, p3⟩ := pt_sub hS.1 hb (fun u hu => by
        rw [pt_b2] at hu
        by_cases y0 : i0 = u
        · subst y0
          exact tb i0 hi0 (by omega)
        · by_cases y1 : i1' = u
          · subst y1
            exact tb i1' hi1 (by omega)
          · rw [decide_eq_false y0, decide_eq_false y1] at hu
            cases hu)
      have a1 := r2 _ (2 ^ i0 ||| 2 ^ i1') _ trivial (Or.inr ⟨i0, i1', lt1, hi1, B0, FG.1, FG.2.1, rfl, rfl⟩) p1 p2 p3
      have a2 := i1 _ _ Pa' hS'
      rw [← ea', pt_cost_u hi1, pt_cost_u hi0] at a2
      rw [if_neg (show ¬ i1' = i0 by omega), ej0, ej1, pt_ct_n, pt_ct_n] at a2
      omega
    · have only : ∀ i, i < pt_m Q → a i = (j : Int) → i = i0 := fun i hi ei => by
        by_cases z : i = i0
        · exact z
        · exact absurd ⟨i, hi, z, ei⟩ q2
      obtain ⟨a', ea'⟩ : ∃ a' : Nat → Int, (fun x => if x = i0 then -1 else a x) = a' := ⟨_, rfl⟩
      have v0 : a' i0 = -1 := by rw [← ea']; exact if_pos rfl
      have vx : ∀ x, ¬ x = i0 → a' x = a x := fun x z0 => by rw [← ea']; exact if_neg z0
      have Pa' : pt_P Q j a' := fun i hi => by
        by_cases z0 : i = i0
        · exact Or.inl (by rw [z0]; exact v0)
        · rcases ha i hi with g | g
          · exact Or.inl (by rw [vx i z0]; exact g)
          · refine Or.inr (pt_tr1 hi (fun x hx => ?_) g (fun hh => z0 (only i hi hh)))
            by_cases y0 : x = i0
            · exact Or.inr ⟨by rw [y0]; exact ej0, by rw [y0]; exact v0⟩
            · exact Or.inl ⟨fun hh => y0 (only x hx hh), vx x y0⟩
      have hS' : pt_S Q a' (h ^^^ 2 ^ i0) := pt_S_sub hS e2 (fun x hx => by
        rw [pt_b1]
        by_cases y0 : x = i0
        · subst y0
          exact Or.inl ⟨by simp, by omega, v0⟩
        · exact Or.inr ⟨by rw [decide_eq_false (fun z => y0 z.symm)], vx x y0⟩)
      obtain ⟨p1, p2, p3⟩ := pt_sub hS.1 e2 (fun u hu => by
        rw [pt_b1] at hu
        have y0 : i0 = u := of_decide_eq_true hu
        subst y0
        exact tb i0 hi0 (by omega))
      have a1 := r2 _ (2 ^ i0) _ trivial (Or.inl ⟨i0, hi0, B0, rfl, rfl⟩) p1 p2 p3
      have a2 := i1 _ _ Pa' hS'
      rw [← ea', pt_cost_u hi0, ej0, pt_ct_n] at a2
      omega
  · have Pa : pt_P Q j a := fun i hi => by
      rcases ha i hi with g | g
      · exact Or.inl g
      · have ne : ∀ x, x < pt_m Q → ¬ a x = (j : Int) := fun x hx hh => q ⟨x, hx, hh⟩
        exact Or.inr (pt_tr1 hi (fun x hx => Or.inl ⟨ne x hx, rfl⟩) g (ne i hi))
    have := i1 a h Pa hS
    omega
theorem pt_I_step {Q : zPt} {j : Nat} {b b' : Nat → Int} (hI : pt_I Q j b) (hr : pt_rel Q j (fun _ _ => True) b b') (h0 : ∀ i, 0 ≤ pt_ct Q i (j : Int)) : pt_I Q (j + 1) b' := by
  refine ⟨fun a h ha hS => pt_I_step1 hI hr ha hS, fun h hh hb => ?_⟩
  obtain ⟨i1, i2⟩ := hI
  obtain ⟨_, _, r3⟩ := hr h hh
  have lt : ∀ {a' : Nat → Int}, pt_P Q j a' → ∀ x, x < pt_m Q → a' x < (j : Int) := fun hp x hx => by
    rcases hp x hx with g | ⟨s, g1, g2, _⟩ <;> omega
  rcases r3 with r3 | ⟨sub, bits, w, kk, hs, dj, rfl, e⟩
  · obtain ⟨a, g1, g2, g3⟩ := i2 h hh (by omega)
    refine ⟨a, fun i hi => ?_, g2, by omega⟩
    rcases g1 i hi with g | g
    · exact Or.inl g
    · exact Or.inr (pt_tr2 (fun x => Or.inl rfl) g)
  · rcases kk with ⟨i, hi, hB, rfl, rfl⟩ | ⟨i, i', hii, hi', hB, hF, hG, rfl, rfl⟩
    · have := h0 i
      obtain ⟨a', g1, g2, g3⟩ := i2 sub hs (by omega)
      have e2 : 2 ^ i < 2 ^ pt_m Q := Nat.pow_lt_pow_right (by omega) hi
      have n0 : a' i = -1 := by
        by_cases z : a' i = -1
        · exact z
        · have := dj i ((g2.2 i hi).2 z)
          rw [pt_b1] at this
          simp at this
      obtain ⟨a, ea⟩ : ∃ a : Nat → Int, (fun x => if x = i then (j : Int) else a' x) = a := ⟨_, rfl⟩
      have v0 : a i = (j : Int) := by rw [← ea]; exact if_pos rfl
      have vx : ∀ x, ¬ x = i → a x = a' x := fun x z0 => by rw [← ea]; exact if_neg z0
      have er : ∀ x, a x = a' x ∨ (a x = (j : Int) ∧ a' x = -1) := fun x => by
        by_cases z : x = i
        · exact Or.inr ⟨by rw [z]; exact v0, by rw [z]; exact n0⟩
        · exact Or.inl (vx x z)
      refine ⟨a, fun x hx => ?_, pt_S_add g2 e2 (fun x hx => ?_), ?_⟩
      · by_cases z : x = i
        · subst z
          refine Or.inr ⟨j, by omega, v0, Or.inl ⟨fun y hy => ?_, hB⟩⟩
          have := lt g1 y (by omega)
          rw [vx y (by omega), v0]
          omega
        · rcases g1 x hx with g | g
          · exact Or.inl (by rw [vx x z]; exact g)
          · exact Or.inr (pt_tr2 er g)
      · rw [pt_b1]
        by_cases z : x = i
        · exact Or.inl ⟨by simp [z], by rw [z, v0]; omega⟩
        · exact Or.inr ⟨by rw [decide_eq_false (fun y => z y.symm)], vx x z⟩
      · rw [← ea, pt_cost_u hi, n0, pt_ct_n]
        omega
    · have := h0 i
      have := h0 i'
      obtain ⟨a', g1, g2, g3⟩ := i2 sub hs (by omega)
      have hi : i < pt_m Q := by omega
      have e2 : 2 ^ i < 2 ^ pt_m Q := Nat.pow_lt_pow_right (by omega) hi
      have e3 : 2 ^ i' < 2 ^ pt_m Q := Nat.pow_lt_pow_right (by omega) hi'
      have n0 : a' i = -1 := by
        by_cases z : a' i = -1
        · exact z
        · have := dj i ((g2.2 i hi).2 z)
          rw [pt_b2] at this
          simp at this
      have n1 : a' i' = -1 := by
        by_cases z : a' i' = -1
        · exact z
        · have := dj i' ((g2.2 i' hi').2 z)
          rw [pt_b2] at this
          simp at this
      obtain ⟨a, ea⟩ : ∃ a : Nat → Int, (fun x => if x = i' then (j : Int) else (fun x => if x = i then (j : Int) else a' x) x) = a := ⟨_, rfl⟩
      have v1 : a i' = (j : Int) := by rw [← ea]; exact if_pos rfl
      have v0 : a i = (j : Int) := by
        rw [← ea]
        show (if i = i' then (j : Int) else (if i = i then (j : Int) else a' i)) = j
        rw [if_neg (by omega), if_pos rfl]
      have vx : ∀ x, ¬ x = i → ¬ x = i' → a x = a' x := fun x z0 z1 => by
        rw [← ea]
        show (if x = i' then (j : Int) else (if x = i then (j : Int) else a' x)) = a' x
        rw [if_neg z1, if_neg z0]
      have er : ∀ x, a x = a' x ∨ (a x = (j : Int) ∧ a' x = -1) := fun x => by
        by_cases z : x = i
        · exact Or.inr ⟨by rw [z]; exact v0, by rw [z]; exact n0⟩
        · by_cases z1 : x = i'
          · exact Or.inr ⟨by rw [z1]; exact v1, by rw [z1]; exact n1⟩
          · exact Or.inl (vx x z z1)
      refine ⟨a, fun x hx => ?_, pt_S_add g2 (Nat.or_lt_two_pow e2 e3) (fun x hx => ?_), ?_⟩
      · by_cases z : x = i
        · subst z
          refine Or.inr ⟨j, by omega, v0, Or.inl ⟨fun y hy => ?_, hB⟩⟩
          have := lt g1 y (by omega)
          rw [vx y (by omega) (by omega), v0]
          omega
        · by_cases z1 : x = i'
          · subst z1
            refine Or.inr ⟨j, by omega, v1, Or.inr ⟨i, hii, by rw [v0, v1], fun y hy hne => ?_, hF, hG⟩⟩
            have := lt g1 y (by omega)
            rw [vx y hne (by omega), v1]
            omega
          · rcases g1 x hx with g | g
            · exact Or.inl (by rw [vx x z z1]; exact g)
            · exact Or.inr (pt_tr2 er g)
      · rw [pt_b2]
        by_cases z : x = i
        · exact Or.inl ⟨by simp [z], by rw [z, v0]; omega⟩
        · by_cases z1 : x = i'
          · exact Or.inl ⟨by simp [z1], by rw [z1, v1]; omega⟩
          · exact Or.inr ⟨by rw [decide_eq_false (fun y => z y.symm), decide_eq_false (fun y => z1 y.symm)]; rfl, vx x z z1⟩
      · rw [← ea, pt_cost_u hi']
        rw [if_neg (show ¬ i' = i by omega), pt_cost_u hi, n0, n1, pt_ct_n, pt_ct_n]
        omega
/-- a stall where nobody may stand -/
theorem pt_I_skip {Q : zPt} {j : Nat} {b : Nat → Int} (hI : pt_I Q j b) (h0 : ∀ i, 0 ≤ pt_ct Q i (j : Int)) (hB : ∀ i, i < pt_m Q → pt_B Q i j = false) : pt_I Q (j + 1) b := by
  refine pt_I_step hI (fun h hh => ⟨Int.le_refl _, fun sub bits w _ kk => ?_, Or.inl rfl⟩) h0
  rcases kk with ⟨i, hi, hB', _⟩ | ⟨i, i', hii, hi', hB', _⟩
  · rw [hB i hi] at hB'
    cases hB'
  · rw [hB i (by omega)] at hB'
    cases hB'
theorem su_zero : ∀ (m k : Nat), su (fun _ => (0 : Int)) m k = 0
  | 0, _ => rfl
  | m + 1, k => by
    show (0 : Int) + su (fun _ => (0 : Int)) m (k + 1) = 0
    rw [su_zero m]
    rfl
theorem pt_I_0 {Q : zPt} {b : Nat → Int} (h0 : b 0 = 0) (h1 : ∀ h, h < 2 ^ pt_m Q → ¬ h = 0 → b h = 1152921504606846976) : pt_I Q 0 b := by
  refine ⟨fun a h ha hS => ?_, fun h hh hb => ?_⟩
  · have an : ∀ i, i < pt_m Q → a i = -1 := fun i hi => by
      rcases ha i hi with g | ⟨s, g, _⟩
      · exact g
      · omega
    have e : h = 0 := by
      apply Nat.eq_of_testBit_eq
      intro u
      rw [Nat.zero_testBit]
      rcases Nat.lt_or_ge u (pt_m Q) with z | z
      · cases hb : h.testBit u
        · rfl
        · exact absurd (an u z) ((hS.2 u z).1 hb)
      · exact Nat.testBit_lt_two_pow (Nat.lt_of_lt_of_le hS.1 (Nat.pow_le_pow_right (by omega) z))
    have c : pt_cost Q a = 0 := by
      unfold pt_cost
      rw [su_congr (F := fun i => pt_ct Q i (a i)) (G := fun _ => 0) (pt_m Q) 0 (fun i _ hi => by rw [an i (by omega), pt_ct_n]), su_zero]
    rw [e, h0, c]
    exact Int.le_refl _
  · by_cases z : h = 0
    · refine ⟨fun _ => -1, fun i hi => Or.inl rfl, ⟨hh, fun i hi => by rw [z, Nat.zero_testBit]; simp⟩, ?_⟩
      unfold pt_cost
      rw [su_congr (F := fun i => pt_ct Q i (-1)) (G := fun _ => 0) (pt_m Q) 0 (fun i _ hi => pt_ct_n Q i), su_zero, z, h0]
    · have := h1 h hh z
      omega
