-- needs a0
/-! room: how many find stalls, and the least row of them -/
/-- who may stand where (engine, stall), how many stalls, who asks -/
abbrev zRm : Type := (Nat → Nat → Bool) × Nat × (Nat → Bool)
def rm_a (R : zRm) : Nat → Nat → Bool := R.1
def rm_n (R : zRm) : Nat := R.2.1
def rm_p (R : zRm) : Nat → Bool := R.2.2
/-- a row: each asking engine from lo on has a stall of T or none, no two the same -/
def rm_ok (R : zRm) (T : Nat → Bool) (lo : Nat) (a : Nat → Int) : Prop := (∀ x, x < 12 → a x = -1 ∨ ((lo ≤ x ∧ rm_p R x = true) ∧ ∃ s : Nat, s < rm_n R ∧ a x = (s : Int) ∧ T s = true ∧ rm_a R x s = true)) ∧ ∀ x y, x < 12 → y < 12 → ¬ x = y → ¬ a x = -1 → ¬ a x = a y
def rm_i (v : Int) : Int := if v = -1 then 0 else 1
def rm_sz (a : Nat → Int) : Int := su (fun x => rm_i (a x)) 12 0
def rm_u (T : Nat → Bool) (s : Nat) : Nat → Bool := fun x => if x = s then false else T x
def rm_nu (R : zRm) : Nat → (Nat → Bool) → Int
  | 0, _ => 0
  | k + 1, T => if rm_p R (11 - k) = false then rm_nu R k T else z_lp (fun s v => if T s = true ∧ rm_a R (11 - k) s = true then max v (1 + rm_nu R k (rm_u T s)) else v) (rm_n R) 0 (rm_nu R k T)
theorem z_mxg {good : Nat → Prop} [DecidablePred good] {f : Nat → Int} {v : Int} : ∀ m : Nat, v ≤ z_lp (fun e v => if good e then max v (f e) else v) m 0 v ∧ (∀ e, e < m → good e → f e ≤ z_lp (fun e v => if good e then max v (f e) else v) m 0 v) ∧ (z_lp (fun e v => if good e then max v (f e) else v) m 0 v = v ∨ ∃ e, e < m ∧ good e ∧ z_lp (fun e v => if good e then max v (f e) else v) m 0 v = f e)
  | 0 => ⟨Int.le_refl _, fun e he => by omega, Or.inl rfl⟩
  | m + 1 => by
    obtain ⟨h1, h2, h3⟩ := z_mxg (good := good) (f := f) (v := v) m
    rw [z_lp_snoc, Nat.zero_add]
    generalize z_lp (fun e v => if good e then max v (f e) else v) m 0 v = w at *
    by_cases q : good m
    · rw [if_pos q]
      refine ⟨by omega, fun e he hb => ?_, ?_⟩
      · rcases Nat.lt_or_ge e m with q2 | q2
        · have := h2 e q2 hb
          omega
        · obtain rfl : e = m := by omega
          omega
      · by_cases q3 : w ≤ f m
        · exact Or.inr ⟨m, by omega, q, by omega⟩
        · rcases h3 with h3 | ⟨e, a, b, c⟩
          · exact Or.inl (by omega)
          · exact Or.inr ⟨e, by omega, b, by omega⟩
    · rw [if_neg q]
      refine ⟨h1, fun e he hb => ?_, ?_⟩
      · rcases Nat.lt_or_ge e m with q2 | q2
        · exact h2 e q2 hb
        · obtain rfl : e = m := by omega
          exact absurd hb q
      · rcases h3 with h3 | ⟨e, a, b, c⟩
        · exact Or.inl h3
        · exact Or.inr ⟨e, by omega, b, c⟩
theorem rm_sz_u {a : Nat → Int} {t : Nat} {c : Int} (ht : t < 12) : rm_sz (fun x => if x = t then c else a x) = rm_sz a - rm_i (a t) + rm_i c := by
  have := su_upd (F := fun x => rm_i (a x)) (G := fun x => rm_i (if x = t then c else a x)) (t := t) (fun t' q => by rw [if_neg q]) 12 0 (by omega) (by omega)
  simp only [if_pos rfl] at this
  exact this
theorem rm_i_n : rm_i (-1) = 0 := rfl
theorem rm_i_s (s : Nat) : rm_i (s : Int) = 1 := if_neg (by omega)
/-- one engine less -/
theorem rm_ok_up {R : zRm} {T : Nat → Bool} {lo : Nat} {a : Nat → Int} (h : rm_ok R T lo a) (hn : a lo = -1) : rm_ok R T (lo + 1) a := by
  refine ⟨fun x hx => ?_, h.2⟩
  rcases h.1 x hx with g | ⟨g1, g2⟩
  · exact Or.inl g
  · by_cases q : x = lo
    · exact Or.inl (by rw [q]; exact hn)
    · exact Or.inr ⟨⟨by omega, g1.2⟩, g2⟩
theorem rm_ok_dn {R : zRm} {T : Nat → Bool} {lo : Nat} {a : Nat → Int} (h : rm_ok R T (lo + 1) a) : rm_ok R T lo a := by
  refine ⟨fun x hx => ?_, h.2⟩
  rcases h.1 x hx with g | ⟨g1, g2⟩
  · exact Or.inl g
  · exact Or.inr ⟨⟨by omega, g1.2⟩, g2⟩
theorem rm_ok_out {R : zRm} {T : Nat → Bool} {lo s : Nat} {a : Nat → Int} (h : rm_ok R T lo a) (hl : lo < 12) (hs : a lo = (s : Int)) : rm_ok R (rm_u T s) (lo + 1) (fun x => if x = lo then -1 else a x) := by
  obtain ⟨a', ea⟩ : ∃ a' : Nat → Int, (fun x => if x = lo then -1 else a x) = a' := ⟨_, rfl⟩
  have v0 : a' lo = -1 := by rw [← ea]; exact if_pos rfl
  have vx : ∀ x, ¬ x = lo → a' x = a x := fun x q => by rw [← ea]; exact if_neg q
  rw [ea]
  refine ⟨fun x hx => ?_, fun x y hx hy hne hx1 => ?_⟩
  · by_cases q : x = lo
    · exact Or.inl (by rw [q]; exact v0)
    · rw [vx x q]
      rcases h.1 x hx with g | ⟨g1, t, g2, g3, g4, g5⟩
      · exact Or.inl g
      · refine Or.inr ⟨⟨by omega, g1.2⟩, t, g2, g3, ?_, g5⟩
        have ne : ¬ t = s := fun z => by
          have := h.2 lo x hl hx (fun z => q z.symm) (by omega)
          omega
        show (if t = s then false else T t) = true
        rw [if_neg ne]
        exact g4
  · by_cases q : x = lo
    · rw [q] at hx1
      exact absurd v0 hx1
    · rw [vx x q] at hx1 ⊢
      by_cases q2 : y = lo
      · rw [q2, v0]
        exact hx1
      · rw [vx y q2]
        exact h.2 x y hx hy hne hx1
theorem rm_ok_in {R : zRm} {T : Nat → Bool} {lo s : Nat} {a : Nat → Int} (h : rm_ok R (rm_u T s) (lo + 1) a) (hp : rm_p R lo = true) (hs : s < rm_n R) (hT : T s = true) (ha : rm_a R lo s = true) : rm_ok R T lo (fun x => if x = lo then (s : Int) else a x) := by
  have ns : ∀ x, x < 12 → ¬ a x = (s : Int) := fun x hx z => by
    rcases h.1 x hx with g | ⟨_, t, _, g3, g4, _⟩
    · omega
    · obtain rfl : t = s := by omega
      have g4 : (if t = t then false else T t) = true := g4
      rw [if_pos rfl] at g4
      cases g4
  obtain ⟨a', ea⟩ : ∃ a' : Nat → Int, (fun x => if x = lo then (s : Int) else a x) = a' := ⟨_, rfl⟩
  have v0 : a' lo = (s : Int) := by rw [← ea]; exact if_pos rfl
  have vx : ∀ x, ¬ x = lo → a' x = a x := fun x q => by rw [← ea]; exact if_neg q
  rw [ea]
  refine ⟨fun x hx => ?_, fun x y hx hy hne hx1 => ?_⟩
  · by_cases q : x = lo
    · subst q
      exact Or.inr ⟨⟨Nat.le_refl _, hp⟩, s, hs, v0, hT, ha⟩
    · rw [vx x q]
      rcases h.1 x hx with g | ⟨g1, t, g2, g3, g4, g5⟩
      · exact Or.inl g
      · refine Or.inr ⟨⟨by omega, g1.2⟩, t, g2, g3, ?_, g5⟩
        have g4 : (if t = s then false else T t) = true := g4
        by_cases q2 : t = s
        · rw [if_pos q2] at g4
          cases g4
        · rw [if_neg q2] at g4
          exact g4
  · by_cases q : x = lo
    · rw [q, v0]
      by_cases q2 : y = lo
      · omega
      · rw [vx y q2]
        exact fun z => ns y hy z.symm
    · rw [vx x q] at hx1 ⊢
      by_cases q2 : y = lo
      · rw [q2, v0]
        exact ns x hx
      · rw [vx y q2]
        exact h.2 x y hx hy hne hx1
/-- it is the most -/
theorem rm_nu_max (R : zRm) : ∀ (k : Nat) (T : Nat → Bool), k ≤ 12 → (∀ a, rm_ok R T (12 - k) a → rm_sz a ≤ rm_nu R k T) ∧ ∃ a, rm_ok R T (12 - k) a ∧ rm_sz a = rm_nu R k T
  | 0, T, _ => by
    have z : ∀ a, rm_ok R T (12 - 0) a → rm_sz a = 0 := fun a ha => by
      unfold rm_sz
      refine su_0 12 0 (fun x _ hx => ?_)
      rcases ha.1 x (by omega) with g | ⟨g, _⟩
      · rw [g]; rfl
      · omega
    have o : rm_ok R T (12 - 0) (fun _ => -1) := ⟨fun _ _ => Or.inl rfl, fun _ _ _ _ _ q => absurd rfl q⟩
    exact ⟨fun a ha => by rw [z a ha]; exact Int.le_refl _, _, o, z _ o⟩
  | k + 1, T, hk => by
    obtain ⟨i1, a1, i2, i3⟩ := rm_nu_max R k T (by omega)
    have el : 12 - (k + 1) + 1 = 12 - k := by omega
    have e11 : 11 - k = 12 - (k + 1) := by omega
    by_cases hp : rm_p R (11 - k) = false
    · have e : rm_nu R (k + 1) T = rm_nu R k T := by rw [rm_nu, if_pos hp]
      rw [e]
      refine ⟨fun a ha => i1 a ?_, a1, rm_ok_dn (by rw [el]; exact i2), i3⟩
      have := rm_ok_up ha (by
        rcases ha.1 (12 - (k + 1)) (by omega) with g | ⟨g, _⟩
        · exact g
        · rw [← e11, hp] at g
          cases g.2)
      rw [el] at this
      exact this
    · have e : rm_nu R (k + 1) T = z_lp (fun s v => if T s = true ∧ rm_a R (11 - k) s = true then max v (1 + rm_nu R k (rm_u T s)) else v) (rm_n R) 0 (rm_nu R k T) := by rw [rm_nu, if_neg hp]
      obtain ⟨m1, m2, m3⟩ := z_mxg (good := fun s => T s = true ∧ rm_a R (11 - k) s = true) (f := fun s => 1 + rm_nu R k (rm_u T s)) (v := rm_nu R k T) (rm_n R)
      rw [← e] at m1 m2 m3
      have hp' : rm_p R (12 - (k + 1)) = true := by
        rw [← e11]
        cases hb : rm_p R (11 - k)
        · exact absurd hb hp
        · rfl
      refine ⟨fun a ha => ?_, ?_⟩
      · rcases ha.1 (12 - (k + 1)) (by omega) with g | ⟨_, s, g2, g3, g4, g5⟩
        · have := rm_ok_up ha g
          rw [el] at this
          have := i1 a this
          omega
        · have o := rm_ok_out ha (by omega) g3
          rw [el] at o
          have b := (rm_nu_max R k (rm_u T s) (by omega)).1 _ o
          rw [rm_sz_u (by omega), g3, rm_i_s, rm_i_n] at b
          have := m2 s g2 ⟨g4, by rw [e11]; exact g5⟩
          omega
      · rcases m3 with m3 | ⟨s, g2, ⟨g4, g5⟩, m3⟩
        · rw [m3]
          exact ⟨a1, rm_ok_dn (by rw [el]; exact i2), i3⟩
        · obtain ⟨_, a2, j2, j3⟩ := rm_nu_max R k (rm_u T s) (by omega)
          rw [← el] at j2
          refine ⟨_, rm_ok_in j2 hp' g2 g4 (by rw [← e11]; exact g5), ?_⟩
          have an : a2 (12 - (k + 1)) = -1 := by
            rcases j2.1 (12 - (k + 1)) (by omega) with g | ⟨g, _⟩
            · exact g
            · omega
          rw [rm_sz_u (by omega), an, rm_i_s, rm_i_n, m3]
          omega
/-! counting -/
theorem su_fl (p : Nat → Bool) : ∀ k : Nat, su (fun x => if p x = true then 1 else 0) k 0 = (((List.range k).filter p).length : Int)
  | 0 => rfl
  | k + 1 => by
    rw [su_snoc, su_fl p k, Nat.zero_add, List.range_succ, List.filter_append, List.length_append]
    cases hb : p k
    · rw [List.filter_cons_of_neg (by rw [hb]; simp), List.filter_nil]
      simp
    · rw [List.filter_cons_of_pos hb, List.filter_nil]
      simp
theorem cnt_le {p q : Nat → Bool} {f : Nat → Nat} (k : Nat) (h1 : ∀ x, x < k → p x = true → f x < k ∧ q (f x) = true) (h2 : ∀ x y, x < k → y < k → p x = true → p y = true → f x = f y → x = y) : ((List.range k).filter p).length ≤ ((List.range k).filter q).length := by
  have a := l_le (((List.range k).filter p).map (fun x => (f x : Int))) (((List.range k).filter q).map (fun x : Nat => (x : Int))) ?_ ?_
  · rw [List.length_map, List.length_map] at a
    exact a
  · show List.Pairwise _ _
    rw [List.pairwise_map]
    have lt : ((List.range k).filter p).Pairwise (· < ·) := List.Pairwise.filter _ List.pairwise_lt_range
    refine List.Pairwise.imp_of_mem (fun {x y} hx hy hxy z => ?_) lt
    rw [List.mem_filter, List.mem_range] at hx hy
    have := h2 x y hx.1 hy.1 hx.2 hy.2 (by omega)
    omega
  · intro e he
    obtain ⟨x, hx, rfl⟩ := List.mem_map.1 he
    rw [List.mem_filter, List.mem_range] at hx
    obtain ⟨g1, g2⟩ := h1 x hx.1 hx.2
    exact List.mem_map.2 ⟨f x, List.mem_filter.2 ⟨List.mem_range.2 g1, g2⟩, rfl⟩
theorem rm_sz_fl (a : Nat → Int) : rm_sz a = (((List.range 12).filter (fun x => decide (¬ a x = -1))).length : Int) := by
  rw [← su_fl]
  refine su_congr 12 0 (fun x _ _ => ?_)
  unfold rm_i
  by_cases q : a x = -1
  · rw [if_pos q, if_neg (by simp [q])]
  · rw [if_neg q, if_pos (by simp [q])]
theorem rm_sz_le {a b : Nat → Int} {f : Nat → Nat} (h1 : ∀ x, x < 12 → ¬ a x = -1 → f x < 12 ∧ ¬ b (f x) = -1) (h2 : ∀ x y, x < 12 → y < 12 → ¬ a x = -1 → ¬ a y = -1 → f x = f y → x = y) : rm_sz a ≤ rm_sz b := by
  rw [rm_sz_fl, rm_sz_fl]
  have := cnt_le (p := fun x => decide (¬ a x = -1)) (q := fun x => decide (¬ b x = -1)) (f := f) 12 (fun x hx hp => by
    obtain ⟨g1, g2⟩ := h1 x hx (of_decide_eq_true hp)
    exact ⟨g1, decide_eq_true g2⟩) (fun x y hx hy hp hq e => h2 x y hx hy (of_decide_eq_true hp) (of_decide_eq_true hq) e)
  omega
/-! a row that cannot be bettered -/
def km_h (R : zRm) (T : Nat → Bool) (M : Nat → Int) (x : Nat) : Prop := ∃ s, s < rm_n R ∧ T s = true ∧ M s = (x : Int)
/-- who holds what: the stalls of T, by those that Pd names -/
def km_v (R : zRm) (T : Nat → Bool) (Pd : Nat → Prop) (M : Nat → Int) : Prop := (∀ s, s < rm_n R → T s = true → M s = -1 ∨ ∃ x : Nat, x < 12 ∧ M s = (x : Int) ∧ Pd x ∧ rm_a R x s = true) ∧ ∀ s t, s < rm_n R → t < rm_n R → T s = true → T t = true → ¬ M s = -1 → M s = M t → s = t
/-- a set of held stalls whose holders find stalls in it alone -/
def km_cl (R : zRm) (T : Nat → Bool) (M : Nat → Int) (Z : Nat → Prop) : Prop := ∀ s, s < rm_n R → T s = true → Z s → ¬ M s = -1 ∧ ∀ t, t < rm_n R → T t = true → rm_a R (M s).toNat t = true → Z t
def km_I (R : zRm) (T : Nat → Bool) (Pd : Nat → Prop) (M : Nat → Int) (Z : Nat → Prop) : Prop := km_v R T Pd M ∧ km_cl R T M Z ∧ ∀ x, x < 12 → Pd x → ¬ km_h R T M x → ∀ t, t < rm_n R → T t = true → rm_a R x t = true → Z t
/-- the same, told by engines -/
def km_b (R : zRm) (T : Nat → Bool) (M b : Nat → Int) : Prop := ∀ x, x < 12 → (b x = -1 ∧ ¬ km_h R T M x) ∨ ∃ s : Nat, s < rm_n R ∧ T s = true ∧ b x = (s : Int) ∧ M s = (x : Int)
theorem km_ub {R : zRm} {T : Nat → Bool} {Pd : Nat → Prop} {M a b : Nat → Int} {Z : Nat → Prop} (hI : km_I R T Pd M Z) (hb : km_b R T M b) (h1 : ∀ x, x < 12 → a x = -1 ∨ (Pd x ∧ ∃ s : Nat, s < rm_n R ∧ a x = (s : Int) ∧ T s = true ∧ rm_a R x s = true)) (h2 : ∀ x y, x < 12 → y < 12 → ¬ x = y → ¬ a x = -1 → ¬ a x = a y) : rm_sz a ≤ rm_sz b := by
  obtain ⟨⟨v1, v2⟩, cl, un⟩ := hI
  have hz : ∀ x, x < 12 → ¬ a x = -1 → ¬ (¬ b x = -1 ∧ ¬ Z (b x).toNat) → ∃ (s y : Nat), s < rm_n R ∧ T s = true ∧ a x = (s : Int) ∧ y < 12 ∧ M s = (y : Int) ∧ b y = (s : Int) ∧ Z s := by
    intro x hx ha hno
    obtain ⟨px, s, hs, has, hT, hadj⟩ := (h1 x hx).resolve_left ha
    have Zs : Z s := by
      rcases hb x hx with ⟨_, g⟩ | ⟨t, t1, t2, t3, t4⟩
      · exact un x hx px g s hs hT hadj
      · have zt : Z t := by
          by_cases z : Z t
          · exact z
          · exact absurd ⟨by omega, by rw [t3, show ((t : Int)).toNat = t from by omega]; exact z⟩ hno
        have := (cl t t1 t2 zt).2 s hs hT
        rw [t4, show ((x : Int)).toNat = x from by omega] at this
        exact this hadj
    have held := (cl s hs hT Zs).1
    obtain ⟨y, y1, y2, _⟩ := (v1 s hs hT).resolve_left held
    refine ⟨s, y, hs, hT, has, y1, y2, ?_, Zs⟩
    rcases hb y y1 with ⟨_, g⟩ | ⟨t, t1, t2, t3, t4⟩
    · exact absurd ⟨s, hs, hT, y2⟩ g
    · have : s = t := v2 s t hs t1 hT t2 held (by omega)
      rw [this]
      exact t3
  have fx : ∀ x, ∃ y : Nat, x < 12 → ¬ a x = -1 → y < 12 ∧ ¬ b y = -1 ∧ ((y = x ∧ ¬ Z (b y).toNat) ∨ ∃ s : Nat, s < rm_n R ∧ T s = true ∧ a x = (s : Int) ∧ M s = (y : Int) ∧ Z (b y).toNat) := by
    intro x
    by_cases q : x < 12 ∧ ¬ a x = -1
    · by_cases q2 : ¬ b x = -1 ∧ ¬ Z (b x).toNat
      · exact ⟨x, fun _ _ => ⟨q.1, q2.1, Or.inl ⟨rfl, q2.2⟩⟩⟩
      · obtain ⟨s, y, g1, g2, g3, g4, g5, g6, g7⟩ := hz x q.1 q.2 q2
        exact ⟨y, fun _ _ => ⟨g4, by omega, Or.inr ⟨s, g1, g2, g3, g5, by rw [g6, show ((s : Int)).toNat = s from by omega]; exact g7⟩⟩⟩
    · exact ⟨0, fun q1 q2 => absurd ⟨q1, q2⟩ q⟩
  obtain ⟨f, hf⟩ := Classical.axiomOfChoice fx
  refine rm_sz_le (f := f) (fun x hx ha => ⟨(hf x hx ha).1, (hf x hx ha).2.1⟩) (fun x y hx hy ha hay e => ?_)
  obtain ⟨_, _, gx⟩ := hf x hx ha
  obtain ⟨_, _, gy⟩ := hf y hy hay
  rcases gx with ⟨gx1, gx2⟩ | ⟨s, s1, s2, s3, s4, s5⟩
  · rcases gy with ⟨gy1, gy2⟩ | ⟨t, t1, t2, t3, t4, t5⟩
    · omega
    · rw [e] at gx2
      exact absurd t5 gx2
  · rcases gy with ⟨gy1, gy2⟩ | ⟨t, t1, t2, t3, t4, t5⟩
    · rw [e] at s5
      exact absurd s5 gy2
    · have st : s = t := v2 s t s1 t1 s2 t2 (by omega) (by omega)
      by_cases q : x = y
      · exact q
      · exact absurd (by rw [s3, t3, st]) (h2 x y hx hy q ha)
