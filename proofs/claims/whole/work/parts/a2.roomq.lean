-- needs a1
/-! room: one more seated, or none -/
theorem km_b_ex (R : zRm) (T : Nat → Bool) (M : Nat → Int) : ∃ b, km_b R T M b := by
  have fx : ∀ x : Nat, ∃ v : Int, (v = -1 ∧ ¬ km_h R T M x) ∨ ∃ s : Nat, s < rm_n R ∧ T s = true ∧ v = (s : Int) ∧ M s = (x : Int) := fun x => by
    by_cases q : km_h R T M x
    · obtain ⟨s, h1, h2, h3⟩ := q
      exact ⟨(s : Int), Or.inr ⟨s, h1, h2, rfl, h3⟩⟩
    · exact ⟨-1, Or.inl ⟨rfl, q⟩⟩
  obtain ⟨b, hb⟩ := Classical.axiomOfChoice fx
  exact ⟨b, fun x _ => hb x⟩
theorem km_b_h {R : zRm} {T : Nat → Bool} {M b : Nat → Int} (hb : km_b R T M b) {x : Nat} (hx : x < 12) : ¬ b x = -1 ↔ km_h R T M x := by
  rcases hb x hx with ⟨g1, g2⟩ | ⟨s, g1, g2, g3, g4⟩
  · exact ⟨fun z => absurd g1 z, fun z => absurd z g2⟩
  · exact ⟨fun _ => ⟨s, g1, g2, g4⟩, fun _ => by omega⟩
def rm_Pd (R : zRm) (lo : Nat) (x : Nat) : Prop := lo ≤ x ∧ rm_p R x = true
theorem km_b_ok {R : zRm} {T : Nat → Bool} {lo : Nat} {M b : Nat → Int} (hv : km_v R T (rm_Pd R lo) M) (hb : km_b R T M b) : rm_ok R T lo b := by
  refine ⟨fun x hx => ?_, fun x y hx hy hne h1 h2 => ?_⟩
  · rcases hb x hx with ⟨g1, _⟩ | ⟨s, g1, g2, g3, g4⟩
    · exact Or.inl g1
    · rcases hv.1 s g1 g2 with z | ⟨y, y1, y2, y3, y4⟩
      · omega
      · obtain rfl : y = x := by omega
        exact Or.inr ⟨y3, s, g1, g3, g2, y4⟩
  · rcases hb x hx with ⟨g1, _⟩ | ⟨s, g1, g2, g3, g4⟩
    · exact h1 g1
    · rcases hb y hy with ⟨k1, _⟩ | ⟨t, k1, k2, k3, k4⟩
      · omega
      · obtain rfl : s = t := by omega
        omega
/-- it cannot be bettered: it is the most -/
theorem km_max {R : zRm} {T : Nat → Bool} {k lo : Nat} {M b : Nat → Int} {Z : Nat → Prop} (hk : k ≤ 12) (hl : lo = 12 - k) (hI : km_I R T (rm_Pd R lo) M Z) (hb : km_b R T M b) : rm_sz b = rm_nu R k T := by
  subst hl
  obtain ⟨m1, a, m2, m3⟩ := rm_nu_max R k T hk
  have u := km_ub hI hb (fun x hx => m2.1 x hx) m2.2
  have l := m1 b (km_b_ok hI.1 hb)
  omega
/-- one is seated, others going on: what the stalls are then -/
def km_s (R : zRm) (T : Nat → Bool) (M : Nat → Int) : Nat → (Nat → Prop) → Nat → (Nat → Int) → Prop
  | 0, _, _, _ => False
  | k + 1, A, e, M' => ∃ s, s < rm_n R ∧ T s = true ∧ ¬ A s ∧ rm_a R e s = true ∧ ((M s = -1 ∧ M' = fun x => if x = s then (e : Int) else M x) ∨ ∃ (h : Nat) (A1 : Nat → Prop) (M1 : Nat → Int), M s = (h : Int) ∧ (∀ x, A x → A1 x) ∧ A1 s ∧ km_s R T M k A1 h M1 ∧ M' = fun x => if x = s then (e : Int) else M1 x)
/-- what is true of them -/
def km_q (R : zRm) (T : Nat → Bool) (Pd : Nat → Prop) (M : Nat → Int) (A : Nat → Prop) (e : Nat) (M' : Nat → Int) : Prop :=
  ((∀ s, A s → M' s = M s) ∧ ∀ s, ¬ (s < rm_n R ∧ T s = true) → M' s = M s) ∧
  (∀ s, s < rm_n R → T s = true → ¬ A s → M' s = -1 ∨ ∃ x : Nat, x < 12 ∧ M' s = (x : Int) ∧ (Pd x ∨ x = e) ∧ rm_a R x s = true) ∧
  (∀ s t, s < rm_n R → t < rm_n R → T s = true → T t = true → ¬ A s → ¬ A t → ¬ M' s = -1 → M' s = M' t → s = t) ∧
  (∀ x : Nat, (∃ s, s < rm_n R ∧ T s = true ∧ ¬ A s ∧ M' s = (x : Int)) ↔ (x = e ∨ ∃ s, s < rm_n R ∧ T s = true ∧ ¬ A s ∧ M s = (x : Int))) ∧
  ∀ Z, km_cl R T M Z → (∃ t, t < rm_n R ∧ T t = true ∧ rm_a R e t = true ∧ ¬ Z t) ∧ ∀ s, s < rm_n R → T s = true → Z s → M' s = M s
theorem km_s_q {R : zRm} {T : Nat → Bool} {Pd : Nat → Prop} {M : Nat → Int} (hv : km_v R T Pd M) : ∀ (k : Nat) (A : Nat → Prop) (e : Nat) (M' : Nat → Int), e < 12 → (∀ s, s < rm_n R → T s = true → ¬ A s → ¬ M s = (e : Int)) → km_s R T M k A e M' → km_q R T Pd M A e M'
  | 0, _, _, _, _, _, h => h.elim
  | k + 1, A, e, M', he, hpre, h => by
    obtain ⟨s, s1, s2, s3, s4, hor⟩ := h
    rcases hor with ⟨free, eM⟩ | ⟨h, A1, M1, hh, sub, As, hs, eM⟩
    · have v0 : M' s = (e : Int) := by rw [eM]; exact if_pos rfl
      have vx : ∀ x, ¬ x = s → M' x = M x := fun x q => by rw [eM]; exact if_neg q
      refine ⟨⟨fun x hx => vx x (fun z => s3 (by rw [← z]; exact hx)), fun x hx => vx x (fun z => hx (by rw [z]; exact ⟨s1, s2⟩))⟩, fun x x1 x2 x3 => ?_, fun x y x1 y1 x2 y2 x3 y3 xn xy => ?_, fun x => ⟨fun hx => ?_, fun hx => ?_⟩, fun Z hZ => ?_⟩
      · by_cases q : x = s
        · subst q
          exact Or.inr ⟨e, he, v0, Or.inr rfl, s4⟩
        · rw [vx x q]
          rcases hv.1 x x1 x2 with g | ⟨y, y1, y2, y3, y4⟩
          · exact Or.inl g
          · exact Or.inr ⟨y, y1, y2, Or.inl y3, y4⟩
      · by_cases q : x = s
        · by_cases q2 : y = s
          · omega
          · rw [q, v0, vx y q2] at xy
            exact absurd xy.symm (hpre y y1 y2 y3)
        · by_cases q2 : y = s
          · rw [q2, v0, vx x q] at xy
            exact absurd xy (hpre x x1 x2 x3)
          · rw [vx x q] at xn xy
            rw [vx y q2] at xy
            exact hv.2 x y x1 y1 x2 y2 xn xy
      · obtain ⟨t, t1, t2, t3, t4⟩ := hx
        by_cases q : t = s
        · rw [q, v0] at t4
          exact Or.inl (by omega)
        · rw [vx t q] at t4
          exact Or.inr ⟨t, t1, t2, t3, t4⟩
      · rcases hx with rfl | ⟨t, t1, t2, t3, t4⟩
        · exact ⟨s, s1, s2, s3, v0⟩
        · exact ⟨t, t1, t2, t3, by rw [vx t (fun z => by rw [z, free] at t4; omega)]; exact t4⟩
      · have nz : ¬ Z s := fun z => (hZ s s1 s2 z).1 free
        exact ⟨⟨s, s1, s2, s4, nz⟩, fun x x1 x2 xz => vx x (fun z => nz (by rw [← z]; exact xz))⟩
    · have hPd : h < 12 ∧ Pd h := by
        rcases hv.1 s s1 s2 with g | ⟨y, y1, y2, y3, y4⟩
        · omega
        · obtain rfl : y = h := by omega
          exact ⟨y1, y3⟩
      have only : ∀ t, t < rm_n R → T t = true → M t = (h : Int) → t = s := fun t t1 t2 t3 => (hv.2 s t s1 t1 s2 t2 (by omega) (by omega)).symm
      obtain ⟨⟨qa, qa2⟩, qb, qc, qd, qe⟩ := km_s_q hv k A1 h M1 hPd.1 (fun t t1 t2 t3 t4 => t3 (by rw [only t t1 t2 t4]; exact As)) hs
      have v0 : M' s = (e : Int) := by rw [eM]; exact if_pos rfl
      have vx : ∀ x, ¬ x = s → M' x = M1 x := fun x q => by rw [eM]; exact if_neg q
      have eh : ¬ (e : Int) = (h : Int) := fun z => hpre s s1 s2 s3 (by omega)
      have e1 : ∀ t, t < rm_n R → T t = true → ¬ A t → ¬ t = s → ¬ M1 t = (e : Int) := by
        intro t t1 t2 t3 q z
        by_cases z1 : A1 t
        · rw [qa t z1] at z
          exact hpre t t1 t2 t3 z
        · rcases (qd e).1 ⟨t, t1, t2, z1, z⟩ with g | ⟨u, u1, u2, u3, u4⟩
          · omega
          · exact hpre u u1 u2 (fun hu => u3 (sub u hu)) u4
      refine ⟨⟨fun x hx => ?_, fun x hx => ?_⟩, fun x x1 x2 x3 => ?_, fun x y x1 y1 x2 y2 x3 y3 xn xy => ?_, fun x => ⟨fun hx => ?_, fun hx => ?_⟩, fun Z hZ => ?_⟩
      · rw [vx x (fun z => s3 (by rw [← z]; exact hx))]
        exact qa x (sub x hx)
      · rw [vx x (fun z => hx (by rw [z]; exact ⟨s1, s2⟩))]
        exact qa2 x hx
      · by_cases q : x = s
        · subst q
          exact Or.inr ⟨e, he, v0, Or.inr rfl, s4⟩
        · rw [vx x q]
          by_cases z1 : A1 x
          · rw [qa x z1]
            rcases hv.1 x x1 x2 with g | ⟨y, y1, y2, y3, y4⟩
            · exact Or.inl g
            · exact Or.inr ⟨y, y1, y2, Or.inl y3, y4⟩
          · rcases qb x x1 x2 z1 with g | ⟨y, y1, y2, y3, y4⟩
            · exact Or.inl g
            · refine Or.inr ⟨y, y1, y2, Or.inl ?_, y4⟩
              rcases y3 with y3 | y3
              · exact y3
              · rw [y3]
                exact hPd.2
      · by_cases q : x = s
        · by_cases q2 : y = s
          · omega
          · rw [q, v0, vx y q2] at xy
            exact absurd xy.symm (e1 y y1 y2 y3 q2)
        · by_cases q2 : y = s
          · rw [q2, v0, vx x q] at xy
            exact absurd xy (e1 x x1 x2 x3 q)
          · rw [vx x q] at xn xy
            rw [vx y q2] at xy
            have mix : ∀ u w, u < rm_n R → T u = true → w < rm_n R → T w = true → ¬ u = s → A1 u → ¬ A1 w → ¬ M1 u = -1 → M1 u = M1 w → False := by
              intro u w u1 u2 w1 w2 us ua wa un uw
              rw [qa u ua] at un uw
              obtain ⟨z, z1, z2, _⟩ := (hv.1 u u1 u2).resolve_left un
              rcases (qd z).1 ⟨w, w1, w2, wa, by omega⟩ with g | ⟨v, v1, v2, v3, v4⟩
              · exact us (only u u1 u2 (by omega))
              · have : u = v := hv.2 u v u1 v1 u2 v2 un (by omega)
                exact v3 (by rw [← this]; exact ua)
            by_cases z1 : A1 x
            · by_cases z2 : A1 y
              · rw [qa x z1] at xn xy
                rw [qa y z2] at xy
                exact hv.2 x y x1 y1 x2 y2 xn xy
              · exact (mix x y x1 x2 y1 y2 q z1 z2 xn xy).elim
            · by_cases z2 : A1 y
              · exact (mix y x y1 y2 x1 x2 q2 z2 z1 (by omega) xy.symm).elim
              · exact qc x y x1 y1 x2 y2 z1 z2 xn xy
      · obtain ⟨t, t1, t2, t3, t4⟩ := hx
        by_cases q : t = s
        · rw [q, v0] at t4
          exact Or.inl (by omega)
        · rw [vx t q] at t4
          refine Or.inr ?_
          by_cases z1 : A1 t
          · rw [qa t z1] at t4
            exact ⟨t, t1, t2, t3, t4⟩
          · rcases (qd x).1 ⟨t, t1, t2, z1, t4⟩ with g | ⟨u, u1, u2, u3, u4⟩
            · exact ⟨s, s1, s2, s3, by rw [g]; exact hh⟩
            · exact ⟨u, u1, u2, fun hu => u3 (sub u hu), u4⟩
      · have up : (∃ u, u < rm_n R ∧ T u = true ∧ ¬ A1 u ∧ M1 u = (x : Int)) → ∃ u, u < rm_n R ∧ T u = true ∧ ¬ A u ∧ M' u = (x : Int) := by
          rintro ⟨u, u1, u2, u3, u4⟩
          exact ⟨u, u1, u2, fun hu => u3 (sub u hu), by rw [vx u (fun z => u3 (by rw [z]; exact As))]; exact u4⟩
        rcases hx with rfl | ⟨t, t1, t2, t3, t4⟩
        · exact ⟨s, s1, s2, s3, v0⟩
        · by_cases q : t = s
          · rw [q, hh] at t4
            exact up ((qd x).2 (Or.inl (by omega)))
          · by_cases z1 : A1 t
            · exact ⟨t, t1, t2, t3, by rw [vx t q, qa t z1]; exact t4⟩
            · exact up ((qd x).2 (Or.inr ⟨t, t1, t2, z1, t4⟩))
      · obtain ⟨⟨t, t1, t2, t3, t4⟩, q2⟩ := qe Z hZ
        have nz : ¬ Z s := fun z => by
          have := (hZ s s1 s2 z).2 t t1 t2
          rw [hh, show ((h : Int)).toNat = h from by omega] at this
          exact t4 (this t3)
        exact ⟨⟨s, s1, s2, s4, nz⟩, fun x x1 x2 xz => by rw [vx x (fun z => nz (by rw [← z]; exact xz))]; exact q2 x x1 x2 xz⟩
/-- nobody more is seated from e: what was asked -/
def km_f (R : zRm) (T : Nat → Bool) (M : Nat → Int) (A A' : Nat → Prop) (e lim : Nat) : Prop := (∀ s, A s → A' s) ∧ (∀ s, s < rm_n R → T s = true → A' s → A s ∨ (¬ M s = -1 ∧ ∀ t, t < rm_n R → T t = true → rm_a R (M s).toNat t = true → A' t)) ∧ ∀ t, t < lim → t < rm_n R → T t = true → rm_a R e t = true → A' t
theorem km_sz_in {R : zRm} {T : Nat → Bool} {M M' b b' : Nat → Int} {e : Nat} (he : e < 12) (hb : km_b R T M b) (hb' : km_b R T M' b') (h : ∀ x : Nat, km_h R T M' x ↔ (x = e ∨ km_h R T M x)) (hn : ¬ km_h R T M e) : rm_sz b' = rm_sz b + 1 := by
  have ii : ∀ v : Int, ¬ v = -1 → rm_i v = 1 := fun v hv => if_neg hv
  have e1 : su (fun x => if x = e then 1 else rm_i (b x)) 12 0 = su (fun x => rm_i (b x)) 12 0 - rm_i (b e) + (if e = e then 1 else rm_i (b e)) := su_upd (F := fun x => rm_i (b x)) (G := fun x => if x = e then 1 else rm_i (b x)) (t := e) (fun t' q => by rw [if_neg q]) 12 0 (by omega) (by omega)
  have e2 := su_congr (F := fun x => rm_i (b' x)) (G := fun x => if x = e then 1 else rm_i (b x)) 12 0 (fun x _ hx => by
    have g := km_b_h hb' (x := x) (by omega)
    have k := km_b_h hb (x := x) (by omega)
    by_cases q : x = e
    · rw [if_pos q]
      exact ii _ (g.2 ((h x).2 (Or.inl q)))
    · rw [if_neg q]
      by_cases z : b x = -1
      · have : b' x = -1 := by
          by_cases y : b' x = -1
          · exact y
          · rcases (h x).1 (g.1 y) with w | w
            · exact absurd w q
            · exact absurd z (k.2 w)
        rw [z, this]
      · rw [ii _ z, ii _ (g.2 ((h x).2 (Or.inr (k.1 z))))])
  have be : b e = -1 := by
    by_cases y : b e = -1
    · exact y
    · exact absurd ((km_b_h hb he).1 y) hn
  rw [if_pos rfl, be, rm_i_n] at e1
  show su (fun x => rm_i (b' x)) 12 0 = su (fun x => rm_i (b x)) 12 0 + 1
  rw [e2, e1]
  omega
/-- one more, seated -/
theorem km_in {R : zRm} {T : Nat → Bool} {Pd Pd' : Nat → Prop} {M M' : Nat → Int} {Z : Nat → Prop} {k e : Nat} (hI : km_I R T Pd M Z) (he : e < 12) (hn : ¬ km_h R T M e) (hP : ∀ x, Pd' x ↔ (Pd x ∨ x = e)) (hs : km_s R T M k (fun _ => False) e M') : km_I R T Pd' M' Z ∧ (∀ x : Nat, km_h R T M' x ↔ (x = e ∨ km_h R T M x)) ∧ ∀ s, ¬ (s < rm_n R ∧ T s = true) → M' s = M s := by
  obtain ⟨⟨_, qa⟩, qb, qc, qd, qe⟩ := km_s_q hI.1 k _ e M' he (fun s s1 s2 _ s4 => hn ⟨s, s1, s2, s4⟩) hs
  have hd : ∀ x : Nat, km_h R T M' x ↔ (x = e ∨ km_h R T M x) := fun x => by
    constructor
    · rintro ⟨s, s1, s2, s3⟩
      rcases (qd x).1 ⟨s, s1, s2, fun z => z, s3⟩ with g | ⟨t, t1, t2, _, t4⟩
      · exact Or.inl g
      · exact Or.inr ⟨t, t1, t2, t4⟩
    · intro h
      obtain ⟨t, t1, t2, _, t4⟩ := (qd x).2 (by
        rcases h with g | ⟨t, t1, t2, t4⟩
        · exact Or.inl g
        · exact Or.inr ⟨t, t1, t2, fun z => z, t4⟩)
      exact ⟨t, t1, t2, t4⟩
  refine ⟨⟨⟨fun s s1 s2 => ?_, fun s t s1 t1 s2 t2 sn st => qc s t s1 t1 s2 t2 (fun z => z) (fun z => z) sn st⟩, fun s s1 s2 sz => ?_, fun x hx px hnx t t1 t2 t3 => ?_⟩, hd, qa⟩
  · rcases qb s s1 s2 (fun z => z) with g | ⟨x, x1, x2, x3, x4⟩
    · exact Or.inl g
    · exact Or.inr ⟨x, x1, x2, (hP x).2 x3, x4⟩
  · rw [(qe Z hI.2.1).2 s s1 s2 sz]
    exact hI.2.1 s s1 s2 sz
  · have hno := fun h => hnx ((hd x).2 h)
    refine hI.2.2 x hx ?_ (fun h => hno (Or.inr h)) t t1 t2 t3
    rcases (hP x).1 px with g | g
    · exact g
    · exact absurd (Or.inl g) hno
/-- one more, not seated -/
theorem km_out {R : zRm} {T : Nat → Bool} {Pd Pd' : Nat → Prop} {M : Nat → Int} {Z A : Nat → Prop} {e : Nat} (hI : km_I R T Pd M Z) (hP : ∀ x, Pd' x ↔ (Pd x ∨ x = e)) (hf : km_f R T M (fun _ => False) A e (rm_n R)) : km_I R T Pd' M (fun s => Z s ∨ A s) := by
  refine ⟨⟨fun s s1 s2 => ?_, hI.1.2⟩, fun s s1 s2 sz => ?_, fun x hx px hnx t t1 t2 t3 => ?_⟩
  · rcases hI.1.1 s s1 s2 with g | ⟨x, x1, x2, x3, x4⟩
    · exact Or.inl g
    · exact Or.inr ⟨x, x1, x2, (hP x).2 (Or.inl x3), x4⟩
  · rcases sz with sz | sz
    · have := hI.2.1 s s1 s2 sz
      exact ⟨this.1, fun t t1 t2 t3 => Or.inl (this.2 t t1 t2 t3)⟩
    · have := (hf.2.1 s s1 s2 sz).resolve_left (fun z => z)
      exact ⟨this.1, fun t t1 t2 t3 => Or.inr (this.2 t t1 t2 t3)⟩
  · rcases (hP x).1 px with g | g
    · exact Or.inl (hI.2.2 x hx g hnx t t1 t2 t3)
    · rw [g] at t3
      exact Or.inr (hf.2.2 t t1 t1 t2 t3)
