-- needs 94
/-! burns: the class's canCoal -/
def sb (m : Nat) : List Nat → Nat → List Nat
  | [], _ => []
  | e :: es, i => if m.testBit i = true then e :: sb m es (i + 1) else sb m es (i + 1)
theorem sb_mem (m : Nat) : ∀ (es : List Nat) (i : Nat), ∀ e ∈ sb m es i, e ∈ es
  | [], _, e, h => by cases h
  | a :: es, i, e, h => by
    unfold sb at h
    split at h
    · rcases List.mem_cons.1 h with h | h
      · simp [h]
      · have := sb_mem m es (i + 1) e h
        simp [this]
    · have := sb_mem m es (i + 1) e h
      simp [this]
theorem sb_nil (m : Nat) : ∀ (es : List Nat) (i : Nat), (∀ j, i ≤ j → m.testBit j = false) → sb m es i = []
  | [], _, _ => rfl
  | a :: es, i, h => by
    unfold sb
    rw [if_neg (by rw [h i (by omega)]; simp)]
    exact sb_nil m es (i + 1) (fun j hj => h j (by omega))
theorem cg_bad_fe (X : zM) {y : Int} (hy : y = 0 ∨ y = 1 ∨ y = 2) (es : List Nat) (T : Int → Int) (he : ∀ e ∈ es, 0 ≤ X 2 (e : Int)) (h0 : 0 < T y) (h1 : X 0 y - T y < X 1 y) : fe X es T = false :=
  ((cg_fe X es T [] none).1 (cg_bad X hy es T [] none he h0 h1)).2
def zE73 (μ' μ : zM) (T : Int → Int) : Prop := (∀ j, ¬ j = 73 → μ' j = μ j) ∧ ∀ y, 0 ≤ y ∧ y < 3 → μ' 73 y = T y
section
variable {g : zG} {X : zM} {es0 : List Nat} {m : Nat}
theorem c_canCoal (hX : iO X) (hL : es0.length ≤ 7) (he12 : ∀ e ∈ es0, e < 12) (hm : m < 4096) : ∀ (es pre : List Nat) (d : Nat) (μ : zM) (T : Int → Int) (K : Option zV → zM → Prop), pre ++ es = es0 → 5 + es.length ≤ d → cQ μ X es0 → (∀ y, 0 ≤ y ∧ y < 3 → μ 73 y = T y) → (∀ y, 0 ≤ T y ∧ T y ≤ 40 * (pre.length : Int)) → cg_ok X T → (fe X (sb m es pre.length) T = true → ∀ μ', zE73 μ' μ T → K (some (.inl 1)) μ') → (fe X (sb m es pre.length) T = false → ∀ μ', zE73 μ' μ T → K (some (.inl 0)) μ') → zCall g d 21 [.inr (.inr ((0, 1), 70)), .inl (m : Int), .inl (pre.length : Int)] μ K := by
  intro es
  induction es with
  | nil =>
    intro pre d μ T K hpre hd hQ hT hb hok h1 h0
    rw [List.append_nil] at hpre
    subst hpre
    have l7 := hQ.2.2.2
    have t : fe X (sb m [] pre.length) T = true := decide_eq_true hok
    exact sX1_canCoal ⟨fun _ => h1 t μ ⟨fun _ _ => rfl, hT⟩, fun _ => ⟨fun q => by omega, fun _ => h1 t μ ⟨fun _ _ => rfl, hT⟩⟩⟩
  | cons e es ih =>
    intro pre d μ T K hpre hd hQ hT hb hok h1 h0
    have l0 : pre.length + (es.length + 1) = es0.length := by rw [← hpre]; simp
    have e12 : e < 12 := he12 e (by rw [← hpre]; simp)
    have xe := hX.2 (e : Int) (by omega)
    have l7 := hQ.2.2.2
    have x2 : ∀ e' ∈ sb m es (pre.length + 1), 0 ≤ X 2 (e' : Int) := fun e' h' => (hX.2 (e' : Int) (by have := he12 e' (by rw [← hpre]; simp [sb_mem m es _ e' h']); omega)).1
    have v75 : μ 75 (pre.length : Int) = (e : Int) := hQ.2.2.1 pre.length (e : Int) (by rw [← hpre]; simp)
    have lp1 : (pre ++ [e]).length = pre.length + 1 := by simp
    simp only [List.length_cons] at hd
    refine sX1_canCoal ⟨fun q => h1 ?_ μ ⟨fun _ _ => rfl, hT⟩, fun _ => ⟨fun _ => ⟨fun q => ⟨by omega, by omega, ?_⟩, fun q => ⟨by omega, ?_⟩⟩, fun q => by omega⟩⟩
    · have z : ∀ j, pre.length ≤ j → m.testBit j = false := by
        intro j hj
        rw [zshr_nat (by omega) (by omega), show ((pre.length : Int)).toNat = pre.length from by omega] at q
        have q : m / 2 ^ pre.length = 0 := by omega
        have lt : m < 2 ^ pre.length := (Nat.div_eq_zero_iff_lt (Nat.two_pow_pos _)).1 q
        exact Nat.testBit_lt_two_pow (Nat.lt_of_lt_of_le lt (Nat.pow_le_pow_right (n := 2) (by omega) hj))
      rw [sb_nil m (e :: es) pre.length z]
      exact decide_eq_true hok
    · have tb : m.testBit pre.length = true := by
        rw [z_tst0 (by omega) (by omega)] at q
        simpa using q
      rw [v75, (hQ.2.1 (e : Int) (by omega)).1, (hQ.2.1 (e : Int) (by omega)).2]
      have es1 : sb m (e :: es) pre.length = e :: sb m es (pre.length + 1) := if_pos tb
      rw [es1] at h1 h0
      have lp : ∀ (c x : Nat) (N : zM), x + c = 3 → zE73 N μ T → fe X (e :: sb m es (pre.length + 1)) T = z_lp (fun j b => b || fe X (sb m es (pre.length + 1)) (cg_up X T e j)) c x false → zT g d mX1_canCoal K 64 [some (.inr (.inr ((0, 1), 70))), some (.inl (m : Int)), some (.inl (pre.length : Int)), some (.inl (X 2 (e : Int))), some (.inl (x : Int)), none] [] N := by
        intro c
        induction c with
        | zero =>
          intro x N hx hE hcl
          exact sX1_canCoal_64 ⟨fun _ => h0 hcl N hE, fun q => by omega⟩
        | succ c ih2 =>
          intro x N hx hE hcl
          have bx := hb (x : Int)
          have qx := hQ.1 (x : Int) (by omega)
          have xx := hX.1 (x : Int) (by omega)
          have ux : cg_up X T e x (x : Int) = T (x : Int) + X 2 (e : Int) := if_pos rfl
          have hcl2 : fe X (e :: sb m es (pre.length + 1)) T = (fe X (sb m es (pre.length + 1)) (cg_up X T e x) || z_lp (fun j b => b || fe X (sb m es (pre.length + 1)) (cg_up X T e j)) c (x + 1) false) := by
            rw [hcl]
            show z_lp (fun j b => b || fe X (sb m es (pre.length + 1)) (cg_up X T e j)) c (x + 1) (false || fe X (sb m es (pre.length + 1)) (cg_up X T e x)) = _
            rw [z_lp_or (G := fun j => fe X (sb m es (pre.length + 1)) (cg_up X T e j)), Bool.false_or]
          have next : ∀ M, zE73 M μ T → fe X (sb m es (pre.length + 1)) (cg_up X T e x) = false → zT g d mX1_canCoal K 64 [some (.inr (.inr ((0, 1), 70))), some (.inl (m : Int)), some (.inl (pre.length : Int)), some (.inl (X 2 (e : Int))), some (.inl (zw ((x : Int) + 1))), none] [] M := by
            intro M hM hf
            rw [zw_suc (by omega)]
            refine ih2 (x + 1) M (by omega) hM ?_
            rw [hcl2, hf, Bool.false_or]
          have back : ∀ Q : zM, zE73 Q (zU N 73 (x : Int) (T (x : Int) + X 2 (e : Int))) (cg_up X T e x) → zE73 (zU Q 73 (x : Int) (zw (Q 73 (x : Int) - X 2 (e : Int)))) μ T := by
            intro Q hQ'
            rw [hQ'.2 (x : Int) (by omega), ux, show T (x : Int) + X 2 (e : Int) - X 2 (e : Int) = T (x : Int) from by omega, zwi (x := T (x : Int)) (by omega) (by omega)]
            refine ⟨fun j hj => by rw [zU_off j hj, hQ'.1 j hj, zU_off j hj, hE.1 j hj], fun y hy => ?_⟩
            by_cases qy : y = (x : Int)
            · subst qy
              exact zU_eq
            · rw [zU_ne (by omega), hQ'.2 y hy]
              exact if_neg qy
          have deep : (X 2 (e : Int) = 0 ∨ X 1 (x : Int) ≤ X 0 (x : Int) - T (x : Int) - X 2 (e : Int)) → (0 ≤ (x : Int) ∧ (x : Int) < 3) ∧ zCall g (d - 1) 21 [.inr (.inr ((0, 1), 70)), .inl (m : Int), .inl (zw ((pre.length : Int) + 1))] (zU N 73 (x : Int) (zw (N 73 (x : Int) + X 2 (e : Int)))) (zBz (fun μ2 => K (some (.inl 1)) (zU μ2 73 (x : Int) (zw (μ2 73 (x : Int) - X 2 (e : Int))))) (fun μ2 => zT g d mX1_canCoal K 64 [some (.inr (.inr ((0, 1), 70))), some (.inl (m : Int)), some (.inl (pre.length : Int)), some (.inl (X 2 (e : Int))), some (.inl (zw ((x : Int) + 1))), none] [] (zU μ2 73 (x : Int) (zw (μ2 73 (x : Int) - X 2 (e : Int)))))) := by
            intro hcan
            refine ⟨by omega, ?_⟩
            rw [hE.2 (x : Int) (by omega), zwi (x := T (x : Int) + X 2 (e : Int)) (by omega) (by omega), zw_suc (by omega), ← lp1]
            have qN : cQ (zU N 73 (x : Int) (T (x : Int) + X 2 (e : Int))) X es0 := hQ.same ⟨fun j hj => by rw [zU_off j (by omega)]; exact hE.1 j (by omega), fun i _ => by rw [zU_off 70 (by omega), hE.1 70 (by omega)]⟩
            refine ih (pre ++ [e]) (d - 1) _ (cg_up X T e x) _ (by rw [← hpre]; simp) (by omega) qN (fun y hy => ?_) (fun y => ?_) ?_ (fun hf Q hQ' => zb1 (h1 ?_ _ (back Q hQ'))) (fun hf Q hQ' => zb0 ?_)
            · unfold cg_up
              by_cases qy : y = (x : Int)
              · subst qy
                rw [zU_eq, if_pos rfl]
              · rw [zU_ne (by omega), if_neg qy]
                exact hE.2 y hy
            · have := hb y
              rw [lp1]
              unfold cg_up
              split <;> omega
            · have one : ∀ y, ok1 X T y → ok1 X (cg_up X T e x) y := by
                intro y hy
                unfold ok1 cg_up at *
                by_cases qy : y = (x : Int)
                · rw [if_pos qy, qy]
                  rw [qy] at hy
                  intro hpos
                  rcases hcan with hz | hz
                  · rw [hz] at hpos ⊢
                    have := hy (by omega)
                    omega
                  · omega
                · rw [if_neg qy]
                  exact hy
              exact ⟨one 0 hok.1, one 1 hok.2.1, one 2 hok.2.2⟩
            · rw [lp1] at hf
              rw [hcl2, hf, Bool.true_or]
            · rw [lp1] at hf
              exact next _ (back Q hQ') hf
          refine sX1_canCoal_64 ⟨fun q => by omega, fun _ => ⟨by omega, sX1_canTake ⟨fun q1 => zb1 (deep (Or.inl q1)), fun q1 => ⟨by omega, ?_⟩⟩⟩⟩
          rw [hE.1 71 (by omega), hE.1 72 (by omega), qx.1, qx.2, hE.2 (x : Int) (by omega), zwi (x := X 0 (x : Int) - T (x : Int)) (by omega) (by omega), zwi (x := X 0 (x : Int) - T (x : Int) - X 2 (e : Int)) (by omega) (by omega)]
          refine ⟨fun q2 => zb0 (next N hE ?_), fun q2 => zb1 (deep (Or.inr q2))⟩
          exact cg_bad_fe X (y := (x : Int)) (by omega) _ _ x2 (by rw [ux]; omega) (by rw [ux]; omega)
      have := lp (3 - (X 3 (e : Int)).toNat) (X 3 (e : Int)).toNat μ (by omega) ⟨fun _ _ => rfl, hT⟩ rfl
      rw [show (((X 3 (e : Int)).toNat : Nat) : Int) = X 3 (e : Int) from by omega] at this
      exact this
    · have tb : m.testBit pre.length = false := by
        rw [z_tst0 (by omega) (by omega)] at q
        simpa using q
      have es1 : sb m (e :: es) pre.length = sb m es (pre.length + 1) := if_neg (by rw [tb]; simp)
      rw [es1] at h1 h0
      rw [zw_suc (by omega), ← lp1]
      refine ih (pre ++ [e]) (d - 1) μ T _ (by rw [← hpre]; simp) (by omega) hQ hT (fun y => by have := hb y; rw [lp1]; omega) hok (fun hf M hM => zb1 (h1 (by rw [lp1] at hf; exact hf) M hM)) (fun hf M hM => zb0 (h0 (by rw [lp1] at hf; exact hf) M hM))
end
