-- needs 90
/-! coaled, fill: the class's search -/
theorem cg_mono {X : zM} {T : Int → Int} {e j : Nat} (he : 0 ≤ X 2 (e : Int)) (y : Int) : T y ≤ cg_up X T e j y := by
  unfold cg_up
  split <;> omega
theorem cg_prune (X : zM) : ∀ (es : List Nat) (T : Int → Int) (P : List Int) (a : zBst), (∀ e ∈ es, 0 ≤ X 2 (e : Int)) → b_le a (1000 * T 2 + T 1) → cg X es T P a = a := by
  intro es
  induction es with
  | nil =>
    intro T P a _ hb
    show (if cg_ok X T then b_off a (1000 * T 2 + T 1) P else a) = a
    split
    · exact b_off_le hb
    · rfl
  | cons e es ih =>
    intro T P a he hb
    refine z_lp_id _ _ _ (fun j _ _ => ih _ _ a (fun e' h => he e' (by simp [h])) ?_)
    have m1 := cg_mono (T := T) (j := j) (he e (by simp)) 1
    have m2 := cg_mono (T := T) (j := j) (he e (by simp)) 2
    exact b_le_mono hb (by omega)
theorem cg_bad (X : zM) {y : Int} (hy : y = 0 ∨ y = 1 ∨ y = 2) : ∀ (es : List Nat) (T : Int → Int) (P : List Int) (a : zBst), (∀ e ∈ es, 0 ≤ X 2 (e : Int)) → 0 < T y → X 0 y - T y < X 1 y → cg X es T P a = a := by
  intro es
  induction es with
  | nil =>
    intro T P a _ h0 h1
    show (if cg_ok X T then b_off a (1000 * T 2 + T 1) P else a) = a
    refine if_neg (fun hh => ?_)
    rcases hy with rfl | rfl | rfl
    · have := hh.1 h0; omega
    · have := hh.2.1 h0; omega
    · have := hh.2.2 h0; omega
  | cons e es ih =>
    intro T P a he h0 h1
    refine z_lp_id _ _ _ (fun j _ _ => ?_)
    have m := cg_mono (T := T) (j := j) (he e (by simp)) y
    exact ih _ _ a (fun e' h => he e' (by simp [h])) (by omega) (by omega)
/-- what the class's search has found -/
def cAc (M X : zM) (es0 : List Nat) (a : zBst) : Prop := match a with
  | none => M 70 10 = 0
  | some q => M 70 10 = 1 ∧ q.2.length = es0.length ∧ zli (M 77) q.2 ∧ (∀ y, 0 ≤ y ∧ y < 3 → M 74 y = ct X es0 q.2 (fun _ => 0) y) ∧ q.1 = 1000 * ct X es0 q.2 (fun _ => 0) 2 + ct X es0 q.2 (fun _ => 0) 1
theorem cAc_same {M M' X : zM} {es0 : List Nat} {a : zBst} (h : cAc M X es0 a) (e1 : M' 70 10 = M 70 10) (e2 : M' 77 = M 77) (e3 : M' 74 = M 74) : cAc M' X es0 a := by
  unfold cAc at *
  rw [e1, e2, e3]
  exact h
def cQ (μ X : zM) (es0 : List Nat) : Prop := (∀ y : Int, 0 ≤ y ∧ y < 3 → μ 71 y = X 0 y ∧ μ 72 y = X 1 y) ∧ (∀ e : Int, 0 ≤ e ∧ e < 12 → μ 10 e = X 2 e ∧ μ 11 e = X 3 e) ∧ zli (μ 75) (es0.map (fun e : Nat => (e : Int))) ∧ μ 70 7 = (es0.length : Int)
def zEg (μ' μ : zM) : Prop := (∀ j, ¬ (j = 70 ∨ j = 73 ∨ j = 74 ∨ j = 76 ∨ j = 77) → μ' j = μ j) ∧ ∀ i, ¬ i = 10 → μ' 70 i = μ 70 i
theorem zEg.refl (μ : zM) : zEg μ μ := ⟨fun _ _ => rfl, fun _ _ => rfl⟩
theorem zEg.trans {a b c : zM} (h : zEg a b) (h' : zEg b c) : zEg a c := ⟨fun j hj => (h.1 j hj).trans (h'.1 j hj), fun i hi => (h.2 i hi).trans (h'.2 i hi)⟩
theorem zEg.u {a b : zM} {j : Nat} {i v : Int} (h : zEg a b) (hj : j = 73 ∨ j = 76) : zEg (zU a j i v) b := ⟨fun k hk => by rw [zU_off k (by omega)]; exact h.1 k hk, fun k hk => by rw [zU_off 70 (by omega)]; exact h.2 k hk⟩
theorem cQ.same {μ μ' X : zM} {es0 : List Nat} (h : cQ μ X es0) (e : zEg μ' μ) : cQ μ' X es0 := by
  unfold cQ at *
  rw [e.1 71 (by omega), e.1 72 (by omega), e.1 10 (by omega), e.1 11 (by omega), e.1 75 (by omega), e.2 7 (by omega)]
  exact h
section
variable {g : zG} {X : zM} {es0 : List Nat}
theorem c_tryGrades (hX : iO X) (hL : es0.length ≤ 7) (he12 : ∀ e ∈ es0, e < 12) : ∀ (es pre : List Nat) (d : Nat) (μ : zM) (T : Int → Int) (P : List Int) (a : zBst) (K : Option zV → zM → Prop), pre ++ es = es0 → pre.length = P.length → 5 + es.length ≤ d → cQ μ X es0 → (∀ y, 0 ≤ y ∧ y < 3 → μ 73 y = T y) → (∀ y, 0 ≤ T y ∧ T y ≤ 40 * (P.length : Int)) → zli (μ 76) P → cg_ok X T → (∀ r, ct X es0 (P ++ r) (fun _ => 0) = ct X es r T) → cAc μ X es0 a → (∀ μ', zEg μ' μ → (∀ y, 0 ≤ y ∧ y < 3 → μ' 73 y = T y) → zli (μ' 76) P → cAc μ' X es0 (cg X es T P a) → K none μ') → zCall g d 18 [.inr (.inr ((0, 1), 70)), .inl (P.length : Int)] μ K := by
  intro es
  induction es with
  | nil =>
    intro pre d μ T P a K hpre hpl hd hQ hT hb hP hok hct hA h
    rw [List.append_nil] at hpre
    subst hpre
    have b1 := hb 1
    have b2 := hb 2
    have t0 := hct []
    rw [List.append_nil] at t0
    have t0 : ct X pre P (fun _ => 0) = T := t0
    have l7 := hQ.2.2.2
    have leaf : b_off a (1000 * T 2 + T 1) P = some (1000 * T 2 + T 1, P) → K none (zcp (zcp (zU μ 70 10 1) 76 0 77 0 (μ 70 7)) 73 0 74 0 3) := by
      intro bo
      refine h _ ⟨fun j hj => by rw [zcp_off _ (by omega), zcp_off _ (by omega), zU_off j (by omega)], fun i hi => by rw [zcp_off _ (by omega), zcp_off _ (by omega), zU_ne (by omega)]⟩ (fun y hy => by rw [zcp_off _ (by omega), zcp_off _ (by omega), zU_off 73 (by omega)]; exact hT y hy) (by rw [zcp_off _ (by omega), zcp_off _ (by omega), zU_off 76 (by omega)]; exact hP) ?_
      rw [show cg X [] T P a = b_off a (1000 * T 2 + T 1) P from if_pos hok, bo]
      refine ⟨by rw [zcp_off _ (by omega), zcp_off _ (by omega), zU_eq], hpl.symm, fun k v hk => ?_, fun y hy => ?_, by rw [t0]⟩
      · have kl : k < P.length := by
          rcases Nat.lt_or_ge k P.length with q | q
          · exact q
          · have hk : P[k]? = some v := hk
            rw [List.getElem?_eq_none q] at hk; cases hk
        rw [zcp_off _ (by omega), l7, zcp_in (by omega), zU_off 76 (by omega), show (k : Int) - 0 + 0 = (k : Int) from by omega]
        exact hP k v hk
      · rw [zcp_in (by omega), zcp_off _ (by omega), zU_off 73 (by omega), show y - 0 + 0 = y from by omega, hT y hy]
        show T y = ct X pre P (fun _ => 0) y
        rw [t0]
    cases a with
    | none =>
      have hA : μ 70 10 = 0 := hA
      refine sX1_tryGrades ⟨fun _ => ⟨fun q => by omega, fun _ => ⟨by omega, by omega, leaf rfl⟩⟩, fun q => absurd hA q⟩
    | some q =>
      have hA2 := hA
      obtain ⟨a1, a2, a3, a4, a5⟩ := hA2
      have cb := ct_b X hX pre q.2 (fun _ => 0) 0 he12 (fun x => by simp)
      have c1 := cb 1
      have c2 := cb 2
      have a41 := a4 1 (by omega)
      have a42 := a4 2 (by omega)
      have t1 := hT 1 (by omega)
      have t2 := hT 2 (by omega)
      have stay : q.1 ≤ 1000 * T 2 + T 1 → K none μ := fun q2 => h μ (zEg.refl μ) hT hP (by rw [cg_prune X [] T P (some q) (fun e he => by cases he) q2]; exact hA)
      refine sX1_tryGrades ⟨fun q => by omega, fun _ => ⟨by omega, sX1_isBetter ⟨fun q1 => zb1 ⟨fun q => by omega, fun _ => ⟨by omega, leaf (if_pos (by omega))⟩⟩, fun q1 => ⟨fun q2 => zb0 (stay (by omega)), fun q2 => ⟨fun q3 => zb0 (stay (by omega)), fun q3 => zb1 ⟨fun q => by omega, fun _ => ⟨by omega, leaf (if_pos (by omega))⟩⟩⟩⟩⟩⟩⟩
  | cons e es ih =>
    intro pre d μ T P a K hpre hpl hd hQ hT hb hP hok hct hA h
    have b1 := hb 1
    have b2 := hb 2
    have l0 : pre.length + (es.length + 1) = es0.length := by rw [← hpre]; simp
    have e12 : e < 12 := he12 e (by rw [← hpre]; simp)
    have xe := hX.2 (e : Int) (by omega)
    have x2 : ∀ e' ∈ es, 0 ≤ X 2 (e' : Int) := fun e' h' => (hX.2 (e' : Int) (by have := he12 e' (by rw [← hpre]; simp [h']); omega)).1
    have x2' : ∀ e' ∈ e :: es, 0 ≤ X 2 (e' : Int) := fun e' h' => (hX.2 (e' : Int) (by have := he12 e' (by rw [← hpre]; rcases List.mem_cons.1 h' with q | q <;> simp [q]); omega)).1
    have l7 := hQ.2.2.2
    have v75 : μ 75 (P.length : Int) = (e : Int) := hQ.2.2.1 P.length (e : Int) (by rw [← hpre, ← hpl]; simp)
    have go : (0 ≤ (P.length : Int) ∧ (P.length : Int) < 7) ∧ ((0 ≤ μ 75 (P.length : Int) ∧ μ 75 (P.length : Int) < 12) ∧ zT g d mX1_tryGrades K 90 [some (.inr (.inr ((0, 1), 70))), some (.inl (P.length : Int)), some (.inl (μ 10 (μ 75 (P.length : Int)))), some (.inl (μ 11 (μ 75 (P.length : Int))))] [] μ) := by
      refine ⟨by omega, by omega, ?_⟩
      rw [v75, (hQ.2.1 (e : Int) (by omega)).1, (hQ.2.1 (e : Int) (by omega)).2]
      have lp : ∀ (c x : Nat) (N : zM) (b : zBst), x + c = 3 → zEg N μ → (∀ y, 0 ≤ y ∧ y < 3 → N 73 y = T y) → zli (N 76) P → cAc N X es0 b → cg X (e :: es) T P a = z_lp (fun j a => cg X es (cg_up X T e j) (P ++ [(j : Int)]) a) c x b → zT g d mX1_tryGrades K 90 [some (.inr (.inr ((0, 1), 70))), some (.inl (P.length : Int)), some (.inl (X 2 (e : Int))), some (.inl (x : Int))] [] N := by
        intro c
        induction c with
        | zero =>
          intro x N b hx hE hTN hPN hAN hcl
          refine sX1_tryGrades_90 ⟨fun _ => h N hE hTN hPN ?_, fun q => by omega⟩
          rw [hcl]
          exact hAN
        | succ c ih2 =>
          intro x N b hx hE hTN hPN hAN hcl
          have qN := hQ.same hE
          have bx := hb (x : Int)
          have qx := qN.1 (x : Int) (by omega)
          have xx := hX.1 (x : Int) (by omega)
          have hl2 : (P ++ [(x : Int)]).length = P.length + 1 := by simp
          have ux : cg_up X T e x (x : Int) = T (x : Int) + X 2 (e : Int) := if_pos rfl
          have next : ∀ M b', zEg M N → (∀ y, 0 ≤ y ∧ y < 3 → M 73 y = T y) → zli (M 76) P → cAc M X es0 b' → cg X es (cg_up X T e x) (P ++ [(x : Int)]) b = b' → zT g d mX1_tryGrades K 90 [some (.inr (.inr ((0, 1), 70))), some (.inl (P.length : Int)), some (.inl (X 2 (e : Int))), some (.inl (zw ((x : Int) + 1)))] [] M := by
            intro M b' hM k1 k2 k3 k4
            rw [zw_suc (by omega)]
            refine ih2 (x + 1) M b' (by omega) (hM.trans hE) k1 k2 k3 ?_
            rw [hcl, ← k4]
            rfl
          have deep : (X 2 (e : Int) = 0 ∨ X 1 (x : Int) ≤ X 0 (x : Int) - T (x : Int) - X 2 (e : Int)) → (0 ≤ (x : Int) ∧ (x : Int) < 3) ∧ ((0 ≤ (P.length : Int) ∧ (P.length : Int) < 7) ∧ zCall g (d - 1) 18 [.inr (.inr ((0, 1), 70)), .inl (zw ((P.length : Int) + 1))] (zU (zU N 73 (x : Int) (zw (N 73 (x : Int) + X 2 (e : Int)))) 76 (P.length : Int) (x : Int)) (zNn fun μ2 => zT g d mX1_tryGrades K 90 [some (.inr (.inr ((0, 1), 70))), some (.inl (P.length : Int)), some (.inl (X 2 (e : Int))), some (.inl (zw ((x : Int) + 1)))] [] (zU μ2 73 (x : Int) (zw (μ2 73 (x : Int) - X 2 (e : Int)))))) := by
            intro hcan
            refine ⟨by omega, by omega, ?_⟩
            rw [hTN (x : Int) (by omega), zwi (x := T (x : Int) + X 2 (e : Int)) (by omega) (by omega), zw_suc (by omega), show ((P.length + 1 : Nat) : Int) = ((P ++ [(x : Int)]).length : Int) from by rw [hl2]]
            have e2 : zEg (zU (zU N 73 (x : Int) (T (x : Int) + X 2 (e : Int))) 76 (P.length : Int) (x : Int)) N := ((zEg.refl N).u (Or.inl rfl)).u (Or.inr rfl)
            refine ih (pre ++ [e]) (d - 1) _ (cg_up X T e x) (P ++ [(x : Int)]) b _ (by rw [← hpre]; simp) (by rw [hl2]; simp [hpl]) (by simp only [List.length_cons] at hd; omega) (qN.same e2) (fun y hy => ?_) (fun y => ?_) ?_ ?_ (fun r => ?_) (cAc_same hAN (by rw [zU_off 70 (by omega), zU_off 70 (by omega)]) (by rw [zU_off 77 (by omega), zU_off 77 (by omega)]) (by rw [zU_off 74 (by omega), zU_off 74 (by omega)])) (fun Q hQ' hTQ hPQ hAQ => zn ?_)
            · rw [zU_off 73 (by omega)]
              unfold cg_up
              by_cases qy : y = (x : Int)
              · subst qy
                rw [zU_eq, if_pos rfl]
              · rw [zU_ne (by omega), if_neg qy]
                exact hTN y hy
            · have := hb y
              rw [hl2]
              unfold cg_up
              split <;> omega
            · rw [zU_row]
              refine zli_snoc ?_
              rw [zU_off 76 (by omega)]
              exact hPN
            · have one : ∀ y, ok1 X T y → ok1 X (cg_up X T e x) y := by
                intro y hy
                unfold ok1 cg_up at *
                by_cases qy : y = (x : Int)
                · rw [if_pos qy, qy]
                  rw [qy] at hy
                  intro hpos
                  rcases hcan with hz | hz
                  · rw [hz] at hpos ⊢
                    have := hy (by omega)
                    omega
                  · omega
                · rw [if_neg qy]
                  exact hy
              exact ⟨one 0 hok.1, one 1 hok.2.1, one 2 hok.2.2⟩
            · have := hct ((x : Int) :: r)
              rw [List.append_assoc]
              exact this
            · have tx : Q 73 (x : Int) = T (x : Int) + X 2 (e : Int) := by rw [hTQ (x : Int) (by omega)]; exact ux
              rw [tx, show T (x : Int) + X 2 (e : Int) - X 2 (e : Int) = T (x : Int) from by omega, zwi (x := T (x : Int)) (by omega) (by omega)]
              refine next _ _ ((hQ'.trans e2).u (Or.inl rfl)) (fun y hy => ?_) (by rw [zU_off 76 (by omega)]; exact zli_pre hPQ) (cAc_same hAQ (by rw [zU_off 70 (by omega)]) (zU_off 77 (by omega)) (zU_off 74 (by omega))) rfl
              by_cases qy : y = (x : Int)
              · subst qy
                exact zU_eq
              · rw [zU_ne (by omega), hTQ y hy]
                exact if_neg qy
          refine sX1_tryGrades_90 ⟨fun q => by omega, fun _ => ⟨by omega, sX1_canTake ⟨fun q1 => zb1 (deep (Or.inl q1)), fun q1 => ⟨by omega, ?_⟩⟩⟩⟩
          rw [qx.1, qx.2, hTN (x : Int) (by omega), zwi (x := X 0 (x : Int) - T (x : Int)) (by omega) (by omega), zwi (x := X 0 (x : Int) - T (x : Int) - X 2 (e : Int)) (by omega) (by omega)]
          refine ⟨fun q2 => zb0 (next N b (zEg.refl N) hTN hPN hAN ?_), fun q2 => zb1 (deep (Or.inr q2))⟩
          exact cg_bad X (y := (x : Int)) (by omega) es _ _ b x2 (by rw [ux]; omega) (by rw [ux]; omega)
      have := lp (3 - (X 3 (e : Int)).toNat) (X 3 (e : Int)).toNat μ a (by omega) (zEg.refl μ) hT hP hA rfl
      rw [show (((X 3 (e : Int)).toNat : Nat) : Int) = X 3 (e : Int) from by omega] at this
      exact this
    cases a with
    | none =>
      have hA : μ 70 10 = 0 := hA
      refine sX1_tryGrades ⟨fun _ => ⟨fun _ => go, fun q => by omega⟩, fun q => absurd hA q⟩
    | some q =>
      have hA2 := hA
      obtain ⟨a1, a2, a3, a4, a5⟩ := hA2
      have cb := ct_b X hX es0 q.2 (fun _ => 0) 0 he12 (fun x => by simp)
      have c1 := cb 1
      have c2 := cb 2
      have a41 := a4 1 (by omega)
      have a42 := a4 2 (by omega)
      have t1 := hT 1 (by omega)
      have t2 := hT 2 (by omega)
      have stay : q.1 ≤ 1000 * T 2 + T 1 → K none μ := fun q2 => h μ (zEg.refl μ) hT hP (by rw [cg_prune X (e :: es) T P (some q) x2' q2]; exact hA)
      refine sX1_tryGrades ⟨fun q => by omega, fun _ => ⟨by omega, sX1_isBetter ⟨fun q1 => zb1 ⟨fun _ => go, fun q => by omega⟩, fun q1 => ⟨fun q2 => zb0 (stay (by omega)), fun q2 => ⟨fun q3 => zb0 (stay (by omega)), fun q3 => zb1 ⟨fun _ => go, fun q => by omega⟩⟩⟩⟩⟩⟩
end
