-- needs 9j
/-! the morning: the reference goes through all trains -/
def zEr (μ' μ : zM) : Prop := (∀ j, ¬ (j = 119 ∨ j = 123 ∨ j = 124 ∨ j = 130 ∨ j = 131 ∨ j = 141 ∨ (160 ≤ j ∧ j ≤ 166)) → μ' j = μ j) ∧ ∀ i, ¬ (i = 14 ∨ i = 15 ∨ (34 ≤ i ∧ i ≤ 40) ∨ (42 ≤ i ∧ i ≤ 45)) → μ' 119 i = μ 119 i
theorem mo_step_sum {X : zM} {b t : Int} {q : zMo} : (mo_step X b t q).2.2.1 = q.2.2.1 + max 0 ((mo_step X b t q).2.2.2 0 t) := by
  unfold mo_step
  split
  · simp only []; rw [zU_eq]; omega
  · split
    · simp only []; rw [zU_eq]; omega
    · split
      · simp only []; rw [mo_L_at.1]; omega
      · split
        · simp only []; rw [mo_L_at.1]; omega
        · simp only []; rw [zU_eq]; omega
theorem vM_but3 {μ' μ : zM} {co : Int → Int} {cn : Int} {k : Nat} (h : ∀ j, ¬ j = 131 → μ' j = μ j) (hk : ¬ k = 3) : vM μ' co cn k = vM μ co cn k := by
  funext x
  match k with
  | 0 => simp only [vM]; rw [h 123 (by omega)]
  | 1 => simp only [vM]; rw [h 124 (by omega)]
  | 2 => simp only [vM]; rw [h 130 (by omega), h 119 (by omega)]
  | 3 => exact absurd rfl hk
  | 4 => simp only [vM]; rw [h 129 (by omega)]
  | 5 => simp only [vM]; rw [h 119 (by omega)]
  | 6 => simp only [vM]; rw [h 120 (by omega)]
  | 7 => simp only [vM]; rw [h 121 (by omega)]
  | 8 => simp only [vM]; rw [h 122 (by omega)]
  | 9 => simp only [vM]; rw [h 125 (by omega)]
  | 10 => simp only [vM]; rw [h 126 (by omega)]
  | 11 => simp only [vM]; rw [h 127 (by omega)]
  | 12 => simp only [vM]; rw [h 128 (by omega)]
  | 13 => simp only [vM]; rw [h 119 (by omega)]
  | 14 => simp only [vM]
  | 15 => simp only [vM]
  | k + 16 => simp only [vM]
section
variable {g : zG} {d : Nat} {K : Option zV → zM → Prop} {μ Y X Z : zM} {co : Int → Int} {cn b e : Int}
theorem m_lightNow (hv : vM μ co cn = Z) (he : e = -1 ∨ (0 ≤ e ∧ e < 12 ∧ e < μ 119 6)) (hb : Z 5 1 = b) (h : ∀ μ', (∀ j, ¬ j = 131 → μ' j = μ j) → vM μ' co cn = mo_l1 b Z e → K none μ') : zCall g d 272 [.inr (.inr ((0, 12), 119)), .inl e] μ K := by
  unfold mo_l1 at h
  have e3 : 0 ≤ e ∧ e < μ 119 6 → Z 3 e = μ 131 e := fun he => by rw [← hv]; exact y_in he
  refine sX12_lightNow ⟨fun q => ?_, fun q => ⟨by omega, fun q2 => ?_, fun q2 => ?_⟩⟩
  · rw [if_pos q] at h
    exact h μ (fun _ _ => rfl) hv
  · rw [if_neg q, if_neg (by rw [e3 (by omega)]; exact q2)] at h
    exact h μ (fun _ _ => rfl) hv
  · have e5 : μ 119 15 = b := by rw [← hb, ← hv]; simp [vM, y_cl]
    rw [if_neg q, if_pos (by rw [e3 (by omega)]; exact q2)] at h
    rw [e5]
    refine h _ (fun j hj => zU_off j hj) ?_
    rw [mU4 (by omega), hv]
theorem m_goThrough (hd : 340 ≤ d) (hv : vM μ co cn = Y) (hW : y_W Y) (hR : y_R Y) (hRu : zRu (μ 138) (μ 119 28) co cn) (hb : Y 5 1 ≤ 320000) (hN : mN μ X) (hi : iN Y X) (h42 : μ 119 42 = 0)
    (h : ∀ μ', zEr μ' μ → vM μ' co cn = Y → μ' 119 42 = 0 → (∀ t : Int, 0 ≤ t ∧ t < X 8 0 → r_nt μ' (mo_all Y X).2.2.2 (X 4 t) t) → K (some (.inl (mo_all Y X).2.2.1)) μ') : zCall g d 273 [.inr (.inr ((0, 12), 119))] μ K := by
  obtain ⟨n1, n2⟩ := hN
  obtain ⟨i1, i2, i3, i4⟩ := hi
  obtain ⟨n, en⟩ : ∃ n : Nat, X 8 0 = (n : Int) := ⟨(X 8 0).toNat, by omega⟩
  have hn8 : n ≤ 8 := by omega
  rw [en] at n1 n2
  have w := hW.1
  have w5 := hW.2.1
  have hX : ∀ t : Nat, t < n → X 7 (t : Int) = -1 ∨ (0 ≤ X 7 (t : Int) ∧ X 7 (t : Int) < Y 13 3) := fun t ht => by have := (i2 (t : Int) (by omega)).2; omega
  have hX4 : ∀ t : Nat, t < n → 0 ≤ X 4 (t : Int) ∧ X 4 (t : Int) ≤ 2000 := fun t ht => by have := (i2 (t : Int) (by omega)).1; omega
  have lp := mo_lit_p (X := X) hW n 0 Y ⟨hW, fun _ _ => rfl⟩ (fun t ht => hX t (by omega))
  have eall : mo_all Y X = mo_go X (Y 5 1) n n 0 (z_lp (mo_lt X (Y 5 1)) n 0 Y, Y 5 1, 0, fun _ _ => 0) := by
    unfold mo_all mo_lit
    rw [en, show ((n : Int)).toNat = n from by omega]
  obtain ⟨B, hB⟩ : ∃ B, z_lp (mo_lt X (Y 5 1)) n 0 Y = B := ⟨_, rfl⟩
  rw [hB] at lp eall
  have B51 : B 5 1 = Y 5 1 := by rw [lp.2 5 (by omega)]
  have m15 : μ 119 15 = Y 5 1 := by
    have : vM μ co cn 5 1 = μ 119 15 := by simp [vM, y_cl]
    rw [← this, hv]
  have m6 : μ 119 6 = Y 13 3 := by
    have : vM μ co cn 13 3 = μ 119 6 := by simp only [vM]; rfl
    rw [← this, hv]
  obtain ⟨E, eE⟩ : ∃ E : Nat, Y 13 3 = (E : Int) := ⟨(Y 13 3).toNat, by omega⟩
  have E12 : E ≤ 12 := by omega
  -- the fires are as they were
  have last : ∀ (N0 : zM) (s : Int), zEr N0 μ → vM N0 co cn = B → N0 119 42 = 0 → (∀ x : Int, 0 ≤ x ∧ x < (E : Int) → N0 161 x = μ 131 x) → (∀ t : Int, 0 ≤ t ∧ t < X 8 0 → r_nt N0 (mo_all Y X).2.2.2 (X 4 t) t) → s = (mo_all Y X).2.2.1 → zT g d mX12_goThrough K 239 [some (.inr (.inr ((0, 12), 119))), none, none, none, some (.inl s), some (.inl 0), none, none] [] N0 := by
    intro N0 s hE hvN n42 n161 nt hs
    have n6 : N0 119 6 = (E : Int) := by rw [hE.2 6 (by omega), m6, eE]
    have loop : ∀ (k i : Nat) (N : zM), i + k = E → (∀ j, ¬ j = 131 → N j = N0 j) → (∀ x : Int, 0 ≤ x ∧ x < 12 → N 131 x = if x < (i : Int) then N0 161 x else N0 131 x) → zT g d mX12_goThrough K 239 [some (.inr (.inr ((0, 12), 119))), none, none, none, some (.inl s), some (.inl (i : Int)), none, none] [] N := by
      intro k
      induction k with
      | zero =>
        intro i N hi hN hN3
        refine sX12_goThrough_239 ⟨fun _ => ?_, fun q => by rw [hN 119 (by omega), n6] at q; omega⟩
        rw [hs]
        refine h N ⟨fun j hj => by rw [hN j (by omega)]; exact hE.1 j hj, fun i hi => by rw [hN 119 (by omega)]; exact hE.2 i hi⟩ ?_ (by rw [hN 119 (by omega)]; exact n42) (fun t ht => ?_)
        · funext k' x
          by_cases q : k' = 3
          · subst q
            have Y3 : Y 3 x = y_cl (μ 119 6) (μ 131) x := by rw [← hv]; rfl
            rw [Y3]
            show y_cl (N 119 6) (N 131) x = y_cl (μ 119 6) (μ 131) x
            rw [hN 119 (by omega), n6, m6, eE]
            unfold y_cl
            by_cases qx : 0 ≤ x ∧ x < (E : Int)
            · rw [if_pos qx, if_pos qx, hN3 x (by omega), if_pos (by omega)]
              exact n161 x qx
            · rw [if_neg qx, if_neg qx]
          · rw [vM_but3 hN q, hvN]
            rw [lp.2 k' q]
        · have := nt t ht
          unfold r_nt at *
          rw [hN 160 (by omega), hN 162 (by omega), hN 163 (by omega), hN 164 (by omega), hN 165 (by omega), hN 166 (by omega)]
          exact this
      | succ k ih =>
        intro i N hi hN hN3
        refine sX12_goThrough_239 ⟨fun q => by rw [hN 119 (by omega), n6] at q; omega, fun _ => ⟨by omega, ?_⟩⟩
        rw [zw_suc (by omega)]
        refine ih (i + 1) _ (by omega) (fun j hj => by rw [zU_off j hj]; exact hN j hj) (fun x hx => ?_)
        by_cases qx : x = (i : Int)
        · subst qx
          rw [zU_eq, hN 161 (by omega), if_pos (by omega)]
        · rw [zU_ne (by omega), hN3 x hx]
          by_cases qi : x < (i : Int)
          · rw [if_pos qi, if_pos (by omega)]
          · rw [if_neg qi, if_neg (by omega)]
    exact loop E 0 N0 (by omega) (fun _ _ => rfl) (fun x hx => by rw [if_neg (by omega)])
  -- all trains, in the order of their minutes
  have main : ∀ N0 : zM, zEr N0 μ → vM N0 co cn = B → N0 119 42 = 0 → (∀ x : Int, 0 ≤ x ∧ x < (E : Int) → N0 161 x = μ 131 x) → zT g d mX12_goThrough K 99 [some (.inr (.inr ((0, 12), 119))), some (.inl (Y 5 1)), some (.inl (Y 5 1)), some (.inl 0), some (.inl 0), some (.inl 0), none, none] [] N0 := by
    intro N0 hE0 hv0 h420 h1610
    have loop : ∀ (k i done : Nat) (q : zMo) (N : zM) (v : Int) (l : List (zM × Int × Int × Int)), i + k = n → zErt N N0 → vM N co cn = zU q.1 5 1 v → (q.2.1 ≤ v ∧ v ≤ 330000) → q.1 5 1 = q.2.1 → mo_b Y (i : Int) q → done < 256 → fr_c done n + k = n → (∀ o : Nat, o < n → done.testBit o = true → r_nt N q.2.2.2 (X 4 (o : Int)) (o : Int)) → N 119 42 = 4 * l.length → l.length ≤ 2 * i → h_okn (N 141) (N 119 42) l q.1 B → mo_all Y X = mo_go X (Y 5 1) n k done q → zT g d mX12_goThrough K 99 [some (.inr (.inr ((0, 12), 119))), some (.inl (Y 5 1)), some (.inl q.2.1), some (.inl (done : Int)), some (.inl q.2.2.1), some (.inl (i : Int)), none, none] [] N := by
      intro k
      induction k with
      | zero =>
        intro i done q N v l hik hE hvN hvb hq hBq hdn hfr hnt n42 hll hkk hall
        have hall : mo_all Y X = q := hall
        have n18 : N 119 18 = (n : Int) := by rw [hE.2 18 (by omega), hE0.2 18 (by omega), n1]
        refine sX12_goThrough_99 ⟨fun _ => ⟨by omega, ?_⟩, fun x => by omega⟩
        have wq : y_W q.1 := by
          have := mo_ok_w (v := q.2.1) hBq.1 (by have := hBq.2.1; omega)
          rwa [zU_same hq] at this
        refine m_undoC (m_undo_n (x := 0) (co := co) (cn := cn) (by omega) l B N q.1 v wq hvN (by omega) ⟨by omega, by rw [n42]; omega, by omega⟩ hkk (fun P w' hP p42 hvP => zn ?_))
        have allb := fr_c_all done n (by omega)
        refine last _ _ ⟨fun j hj => ?_, fun i hi => ?_⟩ ?_ (by rw [zU_ne (by omega)]; exact p42) (fun x hx => ?_) (fun t ht => ?_) (by rw [hall])
        · rw [zU_off j (by omega), hP.1 j (by omega), hE.1 j (by omega)]
          exact hE0.1 j hj
        · rw [zU_ne (by omega), hP.2 i (by omega), hE.2 i hi]
          exact hE0.2 i hi
        · have := mU5 (μ := P) (co := co) (cn := cn) (i := 1) (v := Y 5 1) (Or.inr rfl)
          rw [show (1 : Int) + 14 = 15 from rfl] at this
          rw [this, hvP, zU_2, zU_same B51]
        · rw [zU_off 161 (by omega), hP.1 161 (by omega), hE.1 161 (by omega)]
          exact h1610 x hx
        · have := hnt t.toNat (by omega) (allb _ (by omega))
          rw [show ((t.toNat : Nat) : Int) = t from by omega] at this
          rw [hall]
          unfold r_nt at *
          rw [zU_off 160 (by omega), zU_off 162 (by omega), zU_off 163 (by omega), zU_off 164 (by omega), zU_off 165 (by omega), zU_off 166 (by omega), hP.1 160 (by omega), hP.1 162 (by omega), hP.1 163 (by omega), hP.1 164 (by omega), hP.1 165 (by omega), hP.1 166 (by omega)]
          exact this
      | succ k ih =>
        intro i done q N v l hik hE hvN hvb hq hBq hdn hfr hnt n42 hll hkk hall
        have n18 : N 119 18 = (n : Int) := by rw [hE.2 18 (by omega), hE0.2 18 (by omega), n1]
        have nt4 : ∀ o : Nat, o < n → N 132 (o : Int) = X 4 (o : Int) ∧ N 135 (o : Int) = X 7 (o : Int) := fun o ho => by
          have := n2 (o : Int) (by omega)
          rw [hE.1 132 (by omega), hE.1 135 (by omega), hE0.1 132 (by omega), hE0.1 135 (by omega)]
          exact ⟨this.1, this.2.2.2⟩
        obtain ⟨p, p1, p2, p3, p4⟩ := mo_pick_ok (X := X) (done := done) (n := n) (by omega)
        have hall2 : mo_all Y X = mo_go X (Y 5 1) n k (done ||| 2 ^ p) (mo_step X (Y 5 1) (p : Int) q) := by
          rw [hall]
          show mo_go X (Y 5 1) n k (done ||| 2 ^ (mo_pick X n done).toNat) (mo_step X (Y 5 1) (mo_pick X n done) q) = _
          rw [p1, show ((p : Int)).toNat = p from by omega]
        have hXp := hX p p2
        have hX4p := hX4 p p2
        have p256 : 2 ^ p < 256 := by
          have : 2 ^ p < 2 ^ 8 := Nat.pow_lt_pow_right (by omega) (by omega)
          omega
        have or256 : done ||| 2 ^ p < 256 := Nat.or_lt_two_pow (n := 8) hdn p256
        have ezor : zor (done : Int) (zshl 1 (p : Int)) = ((done ||| 2 ^ p : Nat) : Int) := by
          rw [zshl_1 (by omega), show ((p : Int)).toNat = p from by omega, zor_nat (by omega) (by omega)]
        have stb := mo_step_b (X := X) (t := (p : Int)) hBq (by omega) (by omega) hXp hX4p.1
        have next : ∀ (N' : zM) (v' : Int) (l' : List (zM × Int × Int × Int)) (fr' s' : Int), zErt N' N → vM N' co cn = zU (mo_step X (Y 5 1) (p : Int) q).1 5 1 v' → ((mo_step X (Y 5 1) (p : Int) q).2.1 ≤ v' ∧ v' ≤ 330000) → (mo_step X (Y 5 1) (p : Int) q).1 5 1 = (mo_step X (Y 5 1) (p : Int) q).2.1 → r_nt N' (mo_step X (Y 5 1) (p : Int) q).2.2.2 (X 4 (p : Int)) (p : Int) → r_ot N' N (p : Int) → N' 119 42 = 4 * l'.length → l'.length ≤ l.length + 2 → h_okn (N' 141) (N' 119 42) l' (mo_step X (Y 5 1) (p : Int) q).1 B → fr' = (mo_step X (Y 5 1) (p : Int) q).2.1 → s' = (mo_step X (Y 5 1) (p : Int) q).2.2.1 → zT g d mX12_goThrough K 99 [some (.inr (.inr ((0, 12), 119))), some (.inl (Y 5 1)), some (.inl fr'), some (.inl (zor (done : Int) (zshl 1 (p : Int)))), some (.inl s'), some (.inl (zw ((i : Int) + 1))), none, none] [] N' := by
          intro N' v' l' fr' s' k1 k2 k3 k4 k5 k6 k7 k8 k9 k10 k11
          rw [zw_suc (by omega), ezor, k10, k11]
          refine ih (i + 1) (done ||| 2 ^ p) _ N' v' l' (by omega) (k1.trans hE) k2 k3 k4 ?_ or256 (by omega) (fun o ho hdo => ?_) k7 (by omega) k9 hall2
          · rw [show (((i + 1 : Nat)) : Int) = (i : Int) + 1 from by omega]
            exact stb
          · by_cases qo : o = p
            · subst qo
              exact k5
            · rw [or_test, decide_eq_false (by omega), Bool.or_false] at hdo
              have old := hnt o ho hdo
              have ot := k6 (o : Int) (by omega)
              unfold r_nt at *
              rw [mo_step_L (by omega), mo_step_L (by omega), mo_step_L (by omega), mo_step_L (by omega), ot.1, ot.2.1, ot.2.2.1, ot.2.2.2.1, ot.2.2.2.2.1, ot.2.2.2.2.2]
              exact old
        -- which is next
        have pick : ∀ (c o : Nat) (t : Int), o + c = n → (t = -1 ∨ (0 ≤ t ∧ t < (n : Int))) → mo_pick X n done = z_lp (fun (o : Nat) (t : Int) => if done.testBit o = false ∧ (t = -1 ∨ X 4 (o : Int) < X 4 t) then (o : Int) else t) c o t → zT g d mX12_goThrough K 114 [some (.inr (.inr ((0, 12), 119))), some (.inl (Y 5 1)), some (.inl q.2.1), some (.inl (done : Int)), some (.inl q.2.2.1), some (.inl (i : Int)), some (.inl t), some (.inl (o : Int))] [] N := by
          intro c
          induction c with
          | zero =>
            intro o t hoc htr hpk
            have hpk : mo_pick X n done = t := hpk
            have et : t = (p : Int) := by rw [← hpk, p1]
            subst et
            have b4 := nt4 p p2
            refine sX12_goThrough_114 ⟨fun _ => ⟨by omega, fun z1 => ⟨by omega, ?_⟩, fun z1 => ?_⟩, fun x => by omega⟩
            · rw [b4.2] at z1
              refine m_goTrain (X := X) (Y := Y) (B := B) (l := l) (q := q) (v := v) (by omega) (by rw [mUo (by omega)]; exact hvN) hBq.1 hq hvb (by have := hBq.2.1; omega) (by rw [zU_off 138 (by omega), zU_off 119 (by omega), hE.1 138 (by omega), hE.2 28 (by omega), hE0.1 138 (by omega), hE0.2 28 (by omega)]; exact hRu) (by omega) (by omega) (by rw [zU_off 135 (by omega)]; exact b4.2) (by rw [zU_off 132 (by omega)]; exact b4.1) (by omega) hX4p (by rw [zU_off 119 (by omega)]; exact n42) (by omega) (by rw [zU_off 141 (by omega), zU_off 119 (by omega)]; exact hkk) (fun N' v' l' k1 k2 k3 k4 k5 k6 k7 k8 k9 => zi ?_)
              refine next N' v' l' _ _ (k1.trans ((zErt.refl N).u (by omega))) k2 k3 k4 k5 (k6.trans (r_ot.refl N _).u) k7 k8 k9 rfl ?_
              have ss := mo_step_sum (X := X) (b := Y 5 1) (t := (p : Int)) (q := q)
              have sb := stb.2.2
              rw [k5.1, ← ss, zwi (x := (mo_step X (Y 5 1) (p : Int) q).2.2.1) (by omega) (by omega)]
            · rw [b4.2] at z1
              have st : mo_step X (Y 5 1) (p : Int) q = (q.1, q.2.1, q.2.2.1, zU q.2.2.2 0 (p : Int) (-2)) := if_pos z1
              refine next _ v l _ _ ((zErt.refl N).u (by omega)) (by rw [mUo (by omega), st]; exact hvN) (by rw [st]; exact hvb) (by rw [st]; exact hq) ?_ (r_ot.refl N _).u (by rw [zU_off 119 (by omega)]; exact n42) (by omega) (by rw [zU_off 141 (by omega), zU_off 119 (by omega), st]; exact hkk) (by rw [st]) (by rw [st])
              rw [st]
              unfold r_nt
              simp only []
              rw [zU_eq, zU_eq]
              exact ⟨rfl, fun hh => by omega⟩
          | succ c ihc =>
            intro o t hoc htr hpk
            have bo := nt4 o (by omega)
            have go : ∀ t' : Int, (t' = -1 ∨ (0 ≤ t' ∧ t' < (n : Int))) → (if done.testBit o = false ∧ (t = -1 ∨ X 4 (o : Int) < X 4 t) then (o : Int) else t) = t' → zT g d mX12_goThrough K 114 [some (.inr (.inr ((0, 12), 119))), some (.inl (Y 5 1)), some (.inl q.2.1), some (.inl (done : Int)), some (.inl q.2.2.1), some (.inl (i : Int)), some (.inl t'), some (.inl (zw ((o : Int) + 1)))] [] N := by
              intro t' ht' e
              rw [zw_suc (by omega)]
              refine ihc (o + 1) t' (by omega) ht' ?_
              rw [hpk, ← e]
              rfl
            refine sX12_goThrough_114 ⟨fun x => by omega, fun _ => ⟨fun z1 => ?_, fun z1 => ⟨fun z2 => ?_, fun z2 => ⟨by omega, by omega, fun z3 => ?_, fun z3 => ?_⟩⟩⟩⟩
            · refine go t htr (if_neg (fun hh => ?_))
              rw [z_tst0 (by omega) (by omega), show ((o : Int)).toNat = o from by omega] at z1
              exact z1 hh.1
            · rw [z_tst0 (by omega) (by omega), show ((o : Int)).toNat = o from by omega] at z1
              exact go (o : Int) (by omega) (if_pos ⟨z1, Or.inl z2⟩)
            · obtain ⟨u, eu⟩ : ∃ u : Nat, t = (u : Int) := ⟨t.toNat, by omega⟩
              rw [eu, (nt4 u (by omega)).1, bo.1] at z3
              refine go t htr (if_neg (fun hh => ?_))
              rcases hh.2 with hh | hh
              · exact z2 hh
              · rw [eu] at hh
                omega
            · rw [z_tst0 (by omega) (by omega), show ((o : Int)).toNat = o from by omega] at z1
              obtain ⟨u, eu⟩ : ∃ u : Nat, t = (u : Int) := ⟨t.toNat, by omega⟩
              rw [eu, (nt4 u (by omega)).1, bo.1] at z3
              exact go (o : Int) (by omega) (if_pos ⟨z1, Or.inr (by rw [eu]; exact z3)⟩)
        exact sX12_goThrough_99 ⟨fun x => by omega, fun _ => pick n 0 (-1) (by omega) (Or.inl rfl) rfl⟩
    refine loop n 0 0 (B, Y 5 1, 0, fun _ _ => 0) N0 (Y 5 1) [] (by omega) (zErt.refl N0) ?_ (by simp only []; omega) B51 ⟨⟨?_, ?_, fun k hk _ => lp.2 k (by omega)⟩, by simp only []; omega, by simp only []; omega⟩ (by omega) (by rw [fr_c_zz]; omega) (fun o _ hd => by simp at hd) (by rw [h420]; rfl) (by simp) ⟨Y 5 1, by rw [B51]; exact Int.le_refl _, (zU_same B51).symm⟩ eall
    · simp only []
      rw [zU_same B51]
      exact hv0
    · simp only []
      rw [zU_same B51]
      exact lp.1
    · simp only []
      unfold y_R at *
      rw [lp.2 15 (by omega), lp.2 14 (by omega)]
      exact hR
  -- the fires are lit
  have light : ∀ (k i : Nat) (N A : zM), i + k = n → (∀ j, ¬ (j = 131 ∨ j = 161) → N j = μ j) → (∀ x : Int, 0 ≤ x ∧ x < (E : Int) → N 161 x = μ 131 x) → vM N co cn = A → mo_p Y A → B = z_lp (mo_lt X (Y 5 1)) k i A → zT g d mX12_goThrough K 35 [some (.inr (.inr ((0, 12), 119))), some (.inl (Y 5 1)), some (.inl (i : Int)), none, none, none, none, none] [] N := by
    intro k
    induction k with
    | zero =>
      intro i N A hik hN h161 hvN hpA hz
      have hz : B = A := hz
      refine sX12_goThrough_35 ⟨fun _ => ?_, fun q => by rw [hN 119 (by omega), n1] at q; omega⟩
      rw [hN 119 (by omega), m15]
      exact main N ⟨fun j hj => hN j (by omega), fun i _ => by rw [hN 119 (by omega)]⟩ (by rw [hz]; exact hvN) (by rw [hN 119 (by omega)]; exact h42) h161
    | succ k ih =>
      intro i N A hik hN h161 hvN hpA hz
      have e135 : N 135 (i : Int) = X 7 (i : Int) := by rw [hN 135 (by omega)]; exact (n2 (i : Int) (by omega)).2.2.2
      have hXi := hX i (by omega)
      have next : ∀ N' A', (∀ j, ¬ j = 131 → N' j = N j) → vM N' co cn = A' → mo_lt X (Y 5 1) i A = A' → zT g d mX12_goThrough K 35 [some (.inr (.inr ((0, 12), 119))), some (.inl (Y 5 1)), some (.inl (zw ((i : Int) + 1))), none, none, none, none, none] [] N' := by
        intro N' A' g1 g2 g3
        rw [zw_suc (by omega)]
        refine ih (i + 1) N' A' (by omega) (fun j hj => by rw [g1 j (by omega), hN j hj]) (fun x hx => by rw [g1 161 (by omega)]; exact h161 x hx) g2 (by rw [← g3]; exact mo_lt_p hpA hXi) ?_
        rw [hz, ← g3]
        rfl
      refine sX12_goThrough_35 ⟨fun q => by rw [hN 119 (by omega), n1] at q; omega, fun _ => ⟨by omega, fun q => ⟨by omega, ?_⟩, fun q => ?_⟩⟩
      · rw [e135] at q ⊢
        have wA := hpA.1.1
        have n6 : N 119 6 = Y 13 3 := by rw [hN 119 (by omega)]; exact m6
        have w5 : A 5 1 = Y 5 1 := by rw [hpA.2 5 (by omega)]
        refine m_lightNow hvN (by omega) w5 (fun P hP hvP => zn ?_)
        have hpP := mo_l1_p hpA hXi
        have p135 : P 135 (i : Int) = X 7 (i : Int) := by rw [hP 135 (by omega)]; exact e135
        rw [p135]
        have we := hpP.1.2.2.2 (X 7 (i : Int)) (by omega)
        have wP13 := hpP.1.1
        have p6 : P 119 6 = Y 13 3 := by rw [hP 119 (by omega)]; exact n6
        have p130 : P 130 (X 7 (i : Int)) = mo_l1 (Y 5 1) A (X 7 (i : Int)) 2 (X 7 (i : Int)) := by
          have : vM P co cn 2 (X 7 (i : Int)) = P 130 (X 7 (i : Int)) := y_in (by omega)
          rw [← this, hvP]
        refine m_ahead (co := co) (cn := cn) (by omega) (by omega) (by rw [p130]; omega) (zi ?_)
        rw [hvP]
        have ah := mo_ahead_r hpP.1 (e := X 7 (i : Int)) (by omega)
        rw [hpP.2 13 (by omega)] at ah
        refine m_lightNow hvP (by omega) (by rw [hpP.2 5 (by omega)]) (fun P2 hP2 hvP2 => zn ?_)
        exact next P2 _ (fun j hj => by rw [hP2 j hj, hP j hj]) hvP2 (if_neg q)
      · rw [e135] at q
        exact next N A (fun _ _ => rfl) hvN (if_pos q)
  -- they are noted
  have note : ∀ (k i : Nat) (N : zM), i + k = E → (∀ j, ¬ j = 161 → N j = μ j) → (∀ x : Int, 0 ≤ x ∧ x < (i : Int) → N 161 x = μ 131 x) → zT g d mX12_goThrough K 7 [some (.inr (.inr ((0, 12), 119))), some (.inl (Y 5 1)), some (.inl (i : Int)), none, none, none, none, none] [] N := by
    intro k
    induction k with
    | zero =>
      intro i N hik hN h161
      refine sX12_goThrough_7 ⟨fun _ => ?_, fun q => by rw [hN 119 (by omega), m6] at q; omega⟩
      refine light n 0 N Y (by omega) (fun j hj => hN j (by omega)) (fun x hx => h161 x (by omega)) ?_ ⟨hW, fun _ _ => rfl⟩ hB.symm
      rw [← hv]
      exact vM_same (fun j _ _ => hN j (by omega)) (fun i _ => by rw [hN 119 (by omega)])
    | succ k ih =>
      intro i N hik hN h161
      refine sX12_goThrough_7 ⟨fun q => by rw [hN 119 (by omega), m6] at q; omega, fun _ => ⟨by omega, ?_⟩⟩
      rw [zw_suc (by omega)]
      refine ih (i + 1) _ (by omega) (fun j hj => by rw [zU_off j hj]; exact hN j hj) (fun x hx => ?_)
      by_cases qx : x = (i : Int)
      · subst qx
        rw [zU_eq, hN 131 (by omega)]
      · rw [zU_ne (by omega)]
        exact h161 x (by omega)
  refine sX12_goThrough ?_
  rw [m15]
  exact note E 0 μ (by omega) (fun _ _ => rfl) (fun x hx => by omega)
end
