-- needs 96
/-! burns: some of the list as a mask -/
def pd (D : Nat) : Nat → Nat → Nat → Nat
  | 0, _, _ => 0
  | n + 1, k, s => if D.testBit k = true then s % 2 + 2 * pd D n (k + 1) (s / 2) else 2 * pd D n (k + 1) s
theorem pd_lt (D : Nat) : ∀ (n k s : Nat), pd D n k s < 2 ^ n
  | 0, _, _ => by simp [pd]
  | n + 1, k, s => by
    have a := pd_lt D n (k + 1) (s / 2)
    have b := pd_lt D n (k + 1) s
    unfold pd
    rw [Nat.pow_succ]
    split <;> omega
theorem pd_0 (D : Nat) : ∀ (n k : Nat), pd D n k 0 = 0
  | 0, _ => rfl
  | n + 1, k => by
    have b := pd_0 D n (k + 1)
    unfold pd
    split
    · simp [b]
    · simp [b]
theorem pd_ord (D : Nat) : ∀ (n k s s' : Nat), s < s' → s' < 2 ^ (bl D n k).length → pd D n k s < pd D n k s'
  | 0, k, s, s', h, h' => by
    have h' : s' < 1 := h'
    omega
  | n + 1, k, s, s', h, h' => by
    unfold pd
    unfold bl at h'
    by_cases q : D.testBit k = true
    · rw [if_pos q] at h'
      rw [if_pos q, if_pos q]
      rw [List.length_cons, Nat.pow_succ] at h'
      by_cases q2 : s / 2 < s' / 2
      · have := pd_ord D n (k + 1) (s / 2) (s' / 2) q2 (by omega)
        omega
      · have e : s / 2 = s' / 2 := by omega
        rw [e]
        omega
    · rw [if_neg q] at h'
      rw [if_neg q, if_neg q]
      have := pd_ord D n (k + 1) s s' h h'
      omega
theorem pd_on (D : Nat) : ∀ (n k m : Nat), m < 2 ^ n → (∀ j, m.testBit j = true → D.testBit (k + j) = true) → ∃ s, s < 2 ^ (bl D n k).length ∧ pd D n k s = m
  | 0, k, m, h, _ => ⟨0, by simp [bl], by have h : m < 1 := h; rw [pd_0]; omega⟩
  | n + 1, k, m, h, hs => by
    rw [Nat.pow_succ] at h
    obtain ⟨s, s1, s2⟩ := pd_on D n (k + 1) (m / 2) (by omega) (fun j hj => by have := hs (j + 1) (by rw [Nat.testBit_add_one]; exact hj); rw [show k + 1 + j = k + (j + 1) from by omega]; exact this)
    unfold pd bl
    by_cases q : D.testBit k = true
    · rw [if_pos q]
      refine ⟨m % 2 + 2 * s, by rw [List.length_cons, Nat.pow_succ]; omega, ?_⟩
      rw [if_pos q, show (m % 2 + 2 * s) / 2 = s from by omega, s2]
      omega
    · rw [if_neg q]
      refine ⟨s, s1, ?_⟩
      rw [if_neg q, s2]
      have : ¬ m.testBit 0 = true := fun hh => q (hs 0 hh)
      rw [Nat.testBit_zero] at this
      simp at this
      omega
theorem pd_t0 (D n k s : Nat) (h : D.testBit k = true) : (pd D (n + 1) k s).testBit 0 = s.testBit 0 := by
  unfold pd
  rw [if_pos h, Nat.testBit_zero, Nat.testBit_zero]
  congr 1
  rw [show (s % 2 + 2 * pd D n (k + 1) (s / 2)) % 2 = s % 2 from by omega]
theorem pd_f0 (D n k s : Nat) (h : ¬ D.testBit k = true) : (pd D (n + 1) k s).testBit 0 = false := by
  unfold pd
  rw [if_neg h, Nat.testBit_zero]
  simp
theorem pd_ts (D n k s j : Nat) : (pd D (n + 1) k s).testBit (j + 1) = (pd D n (k + 1) (if D.testBit k = true then s / 2 else s)).testBit j := by
  rw [Nat.testBit_add_one]
  unfold pd
  by_cases q : D.testBit k = true
  · rw [if_pos q, if_pos q, show (s % 2 + 2 * pd D n (k + 1) (s / 2)) / 2 = pd D n (k + 1) (s / 2) from by omega]
    cases n <;> rfl
  · rw [if_neg q, if_neg q, show (2 * pd D n (k + 1) s) / 2 = pd D n (k + 1) s from by omega]
    cases n <;> rfl
theorem pd_sub (D : Nat) : ∀ (n k s j : Nat), (pd D n k s).testBit j = true → D.testBit (k + j) = true
  | 0, _, _, j, h => by simp [pd] at h
  | n + 1, k, s, 0, h => by
    by_cases q : D.testBit k = true
    · exact q
    · rw [pd_f0 D n k s q] at h
      cases h
  | n + 1, k, s, j + 1, h => by
    rw [pd_ts] at h
    have := pd_sub D n (k + 1) _ j h
    rw [show k + (j + 1) = k + 1 + j from by omega]
    exact this
theorem pd_bl (D : Nat) : ∀ (n k s M s0 i : Nat), (∀ j, M.testBit (k + j) = (pd D n k s).testBit j) → (∀ j, s0.testBit (i + j) = s.testBit j) → bl M n k = sb s0 (bl D n k) i
  | 0, _, _, _, _, _, _, _ => rfl
  | n + 1, k, s, M, s0, i, hM, hs => by
    have rec1 : ∀ (s' i' : Nat), (if D.testBit k = true then s / 2 else s) = s' → (∀ j, s0.testBit (i' + j) = s'.testBit j) → bl M n (k + 1) = sb s0 (bl D n (k + 1)) i' := by
      intro s' i' e h
      refine pd_bl D n (k + 1) s' M s0 i' (fun j => ?_) h
      rw [show k + 1 + j = k + (j + 1) from by omega, hM (j + 1), pd_ts, e]
    have m0 : M.testBit k = (pd D (n + 1) k s).testBit 0 := hM 0
    have z0 : s0.testBit i = s.testBit 0 := hs 0
    by_cases q : D.testBit k = true
    · have r := rec1 (s / 2) (i + 1) (if_pos q) (fun j => by rw [show i + 1 + j = i + (j + 1) from by omega, hs (j + 1), Nat.testBit_add_one])
      rw [pd_t0 D n k s q, ← z0] at m0
      have e1 : bl D (n + 1) k = k :: bl D n (k + 1) := if_pos q
      rw [e1]
      show (if M.testBit k = true then k :: bl M n (k + 1) else bl M n (k + 1)) = (if s0.testBit i = true then k :: sb s0 (bl D n (k + 1)) (i + 1) else sb s0 (bl D n (k + 1)) (i + 1))
      rw [m0, r]
    · have r := rec1 s i (if_neg q) hs
      rw [pd_f0 D n k s q] at m0
      have e1 : bl D (n + 1) k = bl D n (k + 1) := if_neg q
      rw [e1, ← r]
      show (if M.testBit k = true then k :: bl M n (k + 1) else bl M n (k + 1)) = bl M n (k + 1)
      rw [m0]
      rfl
theorem fr_c_lo (m : Nat) : ∀ c : Nat, fr_c m (c + 1) = m % 2 + fr_c (m / 2) c
  | 0 => by
    show fr_c m 0 + (if m.testBit 0 = true then 1 else 0) = m % 2 + 0
    rw [Nat.testBit_zero]
    have : fr_c m 0 = 0 := rfl
    rw [this]
    by_cases q : m % 2 = 1 <;> simp [q] <;> omega
  | c + 1 => by
    have ih := fr_c_lo m c
    show fr_c m (c + 1) + (if m.testBit (c + 1) = true then 1 else 0) = m % 2 + (fr_c (m / 2) c + (if (m / 2).testBit c = true then 1 else 0))
    rw [ih, Nat.testBit_add_one]
    omega
theorem fr_c_zz : ∀ c : Nat, fr_c 0 c = 0
  | 0 => rfl
  | c + 1 => by
    rw [fr_c_lo]
    have := fr_c_zz c
    simp [this]
theorem fr_c_hi : ∀ (c m : Nat), m < 2 ^ c → fr_c m (c + 1) = fr_c m c
  | 0, m, h => by
    have h : m < 1 := h
    obtain rfl : m = 0 := by omega
    rfl
  | c + 1, m, h => by
    rw [Nat.pow_succ] at h
    rw [fr_c_lo m (c + 1), fr_c_lo m c, fr_c_hi c (m / 2) (by omega)]
theorem bl_len_le (D : Nat) : ∀ (n k : Nat), (bl D n k).length ≤ n
  | 0, _ => by simp [bl]
  | n + 1, k => by
    have := bl_len_le D n (k + 1)
    unfold bl
    split
    · simp; omega
    · omega
theorem pd_c (D : Nat) : ∀ (n k s c : Nat), n ≤ c → s < 2 ^ (bl D n k).length → fr_c (pd D n k s) c = fr_c s c
  | 0, k, s, c, _, h => by
    have h : s < 1 := h
    obtain rfl : s = 0 := by omega
    rfl
  | n + 1, k, s, 0, hc, _ => by omega
  | n + 1, k, s, c + 1, hc, h => by
    unfold pd
    unfold bl at h
    by_cases q : D.testBit k = true
    · rw [if_pos q] at h
      rw [List.length_cons, Nat.pow_succ] at h
      rw [if_pos q, fr_c_lo _ c, show (s % 2 + 2 * pd D n (k + 1) (s / 2)) % 2 = s % 2 from by omega, show (s % 2 + 2 * pd D n (k + 1) (s / 2)) / 2 = pd D n (k + 1) (s / 2) from by omega, pd_c D n (k + 1) (s / 2) c (by omega) (by omega), fr_c_lo s c]
    · rw [if_neg q] at h
      rw [if_neg q, fr_c_lo _ c, show (2 * pd D n (k + 1) s) % 2 = 0 from by omega, show (2 * pd D n (k + 1) s) / 2 = pd D n (k + 1) s from by omega, pd_c D n (k + 1) s c (by omega) h, fr_c_hi c s ?_]
      · omega
      · have := bl_len_le D n (k + 1)
        exact Nat.lt_of_lt_of_le h (Nat.pow_le_pow_right (n := 2) (by omega) (by omega))
def pq (s : Nat) : List Nat → Nat → Nat → Nat
  | [], _, a => a
  | e :: es, i, a => if s.testBit i = true then pq s es (i + 1) (a ||| 2 ^ e) else pq s es (i + 1) a
theorem pq_pd (D s0 : Nat) : ∀ (n k i a s : Nat), a < 2 ^ k → (∀ j, s0.testBit (i + j) = s.testBit j) → pq s0 (bl D n k) i a = a + 2 ^ k * pd D n k s
  | 0, k, i, a, s, _, _ => by simp [bl, pq, pd]
  | n + 1, k, i, a, s, h, hs => by
    unfold pd bl
    by_cases q : D.testBit k = true
    · rw [if_pos q, if_pos q]
      have z0 : s0.testBit i = s.testBit 0 := hs 0
      rw [Nat.testBit_zero] at z0
      have hs' : ∀ j, s0.testBit (i + 1 + j) = (s / 2).testBit j := fun j => by rw [show i + 1 + j = i + (j + 1) from by omega, hs (j + 1), Nat.testBit_add_one]
      have p2 : 2 ^ (k + 1) = 2 ^ k * 2 := Nat.pow_succ _ _
      show (if s0.testBit i = true then pq s0 (bl D n (k + 1)) (i + 1) (a ||| 2 ^ k) else pq s0 (bl D n (k + 1)) (i + 1) a) = _
      have orr : a ||| 2 ^ k = a + 2 ^ k := by
        have := Nat.two_pow_add_eq_or_of_lt (i := k) (b := a) h 1
        rw [Nat.mul_one] at this
        rw [Nat.or_comm, ← this]
        omega
      by_cases q2 : s % 2 = 1
      · rw [if_pos (by rw [z0]; simp [q2]), orr, pq_pd D s0 n (k + 1) (i + 1) (a + 2 ^ k) (s / 2) (by omega) hs', p2, q2, Nat.mul_assoc, Nat.mul_add]
        omega
      · rw [if_neg (by rw [z0]; simp [q2]), pq_pd D s0 n (k + 1) (i + 1) a (s / 2) (by omega) hs', p2, show s % 2 = 0 from by omega, Nat.mul_assoc, Nat.mul_add]
        omega
    · rw [if_neg q, if_neg q, pq_pd D s0 n (k + 1) i a s (by rw [Nat.pow_succ]; omega) hs, Nat.pow_succ, Nat.mul_assoc]
/-- the class's loop -/
def bq_f (X : zM) (es : List Nat) (s b : Nat) : Nat := if fr_c b 12 < fr_c s 12 ∧ fe X (sb s es 0) (fun _ => 0) = true then s else b
def bq (X : zM) (es : List Nat) : Nat := z_lp (bq_f X es) (2 ^ es.length - 1) 1 0
theorem z_lp_lt {f : Nat → Nat → Nat} (hf : ∀ m b, f m b = m ∨ f m b = b) : ∀ (k lo b hi : Nat), lo + k ≤ hi → b < hi → z_lp f k lo b < hi
  | 0, _, _, _, _, h => h
  | k + 1, lo, b, hi, h, hb => z_lp_lt hf k (lo + 1) (f lo b) hi (by omega) (by rcases hf lo b with e | e <;> rw [e] <;> omega)
theorem bq_lt (X : zM) (es : List Nat) : bq X es < 2 ^ es.length := by
  have := Nat.two_pow_pos es.length
  exact z_lp_lt (fun m b => by unfold bq_f; split <;> simp) _ 1 0 _ (by omega) (by omega)
theorem z_not_sub {m D : Nat} (h : ∀ i, m.testBit i = true → D.testBit i = true) : zand (m : Int) (zxor (D : Int) (-1)) = 0 := by
  refine zb_ext (zI32_and _ _) (zI32_nat (m := 0) (by omega)) (fun i hi => ?_)
  rw [zbit_and, zbit_not _ _ hi, zbit_nat _ _ hi, zbit_nat _ _ hi, show (0 : Int) = ((0 : Nat) : Int) from rfl, zbit_nat _ _ hi]
  have := h i
  rw [Nat.zero_testBit]
  cases hm : m.testBit i
  · rfl
  · rw [this hm]; rfl
theorem bb_uniq2 {ok : Nat → Prop} {c : Nat → Nat} {hi b b' : Nat} (c0 : c 0 = 0) (cp : ∀ m, 1 ≤ m → m < hi → ok m → 0 < c m) (h : bb ok c hi b) (h' : bb ok c hi b') : b = b' :=
  bb_uniq (ok := fun m => m < hi ∧ ok m) c0 (fun m m1 mo => cp m m1 mo.1 mo.2) ⟨h.1.imp id (fun q => ⟨q.1, q.2.1, q.2.1, q.2.2⟩), fun m m1 m2 mo => h.2 m m1 m2 mo.2⟩ ⟨h'.1.imp id (fun q => ⟨q.1, q.2.1, q.2.1, q.2.2⟩), fun m m1 m2 mo => h'.2 m m1 m2 mo.2⟩
theorem bu_bq {X : zM} {n D : Nat} (hn : n ≤ 12) (hD : D < 2 ^ n) : bu X n D = pd D n 0 (bq X (bl D n 0)) ∧ fr_c (bu X n D) 12 = fr_c (bq X (bl D n 0)) 12 := by
  have p12 := p2_12 hn
  have D4 : D < 4096 := by omega
  obtain ⟨L, hL⟩ : ∃ L, (bl D n 0).length = L := ⟨_, rfl⟩
  have Lp := Nat.two_pow_pos L
  let ok : Nat → Prop := fun m => zand (m : Int) (zxor (D : Int) (-1)) = 0 ∧ ¬ cg X (bl m n 0) (fun _ => 0) [] none = none
  let ok' : Nat → Prop := fun s => fe X (sb s (bl D n 0) 0) (fun _ => 0) = true
  let c : Nat → Nat := fun m => fr_c m 12
  have blt := bq_lt X (bl D n 0)
  rw [hL] at blt
  have c0 : c 0 = 0 := fr_c_00
  have h1 : bb ok c (1 + D) (bu X n D) := by
    refine bb_loop (f := bu_f X n D) (fun m b => ⟨fun q => if_pos ⟨q.1.1, q.2, q.1.2⟩, fun q => if_neg (fun hh => q ⟨⟨hh.1, hh.2.2⟩, hh.2.1⟩)⟩) D 1 0 (by omega) ⟨Or.inl rfl, fun m m1 m2 _ => by omega⟩
  have h2 : bb ok' c (1 + (2 ^ L - 1)) (bq X (bl D n 0)) := by
    have := bb_loop (ok := ok') (c := c) (f := bq_f X (bl D n 0)) (fun m b => ⟨fun q => if_pos ⟨q.2, q.1⟩, fun q => if_neg (fun hh => q ⟨hh.2, hh.1⟩)⟩) (2 ^ L - 1) 1 0 (by omega) ⟨Or.inl rfl, fun m m1 m2 _ => by omega⟩
    unfold bq
    rw [hL]
    exact this
  obtain ⟨s, hs⟩ : ∃ s, bq X (bl D n 0) = s := ⟨_, rfl⟩
  rw [hs] at h2 blt
  have cpd : ∀ s, s < 2 ^ L → c (pd D n 0 s) = c s := fun s h => pd_c D n 0 s 12 hn (by rw [hL]; exact h)
  have fpd : ∀ s, bl (pd D n 0 s) n 0 = sb s (bl D n 0) 0 := fun s => pd_bl D n 0 s (pd D n 0 s) s 0 (fun j => by rw [Nat.zero_add]) (fun j => by rw [Nat.zero_add])
  have spd : ∀ s j, (pd D n 0 s).testBit j = true → D.testBit j = true := fun s j h => by have := pd_sub D n 0 s j h; rwa [Nat.zero_add] at this
  have okk : ∀ s, ok (pd D n 0 s) ↔ ok' s := by
    intro s
    show (_ ∧ _) ↔ _
    rw [fpd s, cg_fe]
    constructor
    · intro h
      have := h.2
      show fe X (sb s (bl D n 0) 0) (fun _ => 0) = true
      cases hf : fe X (sb s (bl D n 0) 0) (fun _ => 0)
      · exact absurd ⟨rfl, hf⟩ this
      · rfl
    · intro h
      have h : fe X (sb s (bl D n 0) 0) (fun _ => 0) = true := h
      exact ⟨z_not_sub (spd s), fun hh => by rw [h] at hh; cases hh.2⟩
  have ord : ∀ s s', s < s' → s' < 2 ^ L → pd D n 0 s < pd D n 0 s' := fun s s' h h' => pd_ord D n 0 s s' h (by rw [hL]; exact h')
  have le : ∀ s, pd D n 0 s ≤ D := by
    intro s
    have : pd D n 0 s &&& D = pd D n 0 s := by
      apply Nat.eq_of_testBit_eq
      intro i
      rw [Nat.testBit_and]
      have := spd s i
      cases hh : (pd D n 0 s).testBit i
      · rfl
      · rw [this hh]; rfl
    rw [← this]
    exact Nat.and_le_right
  have h3 : bb ok c (1 + D) (pd D n 0 s) := by
    obtain ⟨a1, a2⟩ := h2
    refine ⟨?_, fun m m1 m2 mo => ?_⟩
    · rcases a1 with a1 | a1
      · exact Or.inl (by rw [a1, pd_0])
      · refine Or.inr ⟨?_, ?_, (okk s).2 a1.2.2⟩
        · have := ord 0 s (by omega) blt
          omega
        · have := le s
          omega
    · obtain ⟨m', m'4, e, sub⟩ := z_sub (x := (m : Int)) (zI32_nat (by omega)) D4 mo.1
      obtain rfl : m = m' := by omega
      obtain ⟨s', l', rfl⟩ := pd_on D n 0 m (by omega) (fun j hj => by rw [Nat.zero_add]; exact sub j hj)
      rw [hL] at l'
      have s0 : 1 ≤ s' := by
        rcases Nat.eq_zero_or_pos s' with z | z
        · rw [z, pd_0] at m1
          omega
        · exact z
      have := a2 s' s0 (by omega) ((okk s').1 mo)
      rw [cpd s' l', cpd s blt]
      refine ⟨this.1, fun e => ?_⟩
      have := this.2 e
      rcases Nat.lt_or_ge s s' with q | q
      · exact Nat.le_of_lt (ord s s' q l')
      · obtain rfl : s = s' := by omega
        exact Nat.le_refl _
  have e := bb_uniq2 c0 (fun m m1 m2 mo => by
    rcases Nat.eq_zero_or_pos (c m) with z | z
    · have := or_0 (D := m) (by omega) z
      omega
    · exact z) h1 h3
  rw [hs, e]
  exact ⟨rfl, cpd s blt⟩
