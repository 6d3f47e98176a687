-- needs 86
/-! coaled, fill, burns: as numbers; the reference's search -/
/-- the bits that stand, from i on -/
def bl (D : Nat) : Nat → Nat → List Nat
  | 0, _ => []
  | k + 1, i => if D.testBit i = true then i :: bl D k (i + 1) else bl D k (i + 1)
abbrev ok1 (X : zM) (T : Int → Int) (x : Int) : Prop := 0 < T x → X 1 x ≤ X 0 x - T x
abbrev cg_ok (X : zM) (T : Int → Int) : Prop := ok1 X T 0 ∧ ok1 X T 1 ∧ ok1 X T 2
def cg_up (X : zM) (T : Int → Int) (e j : Nat) : Int → Int := fun x => if x = (j : Int) then T x + X 2 (e : Int) else T x
def cg (X : zM) : List Nat → (Int → Int) → List Int → zBst → zBst
  | [], T, P, a => if cg_ok X T then b_off a (1000 * T 2 + T 1) P else a
  | e :: es, T, P, a => z_lp (fun j a => cg X es (cg_up X T e j) (P ++ [(j : Int)]) a) (3 - (X 3 (e : Int)).toNat) (X 3 (e : Int)).toNat a
def zEk (μ' μ : zM) : Prop := (∀ j, ¬ (j = 119 ∨ j = 142 ∨ j = 143 ∨ j = 155) → μ' j = μ j) ∧ ∀ i, ¬ (i = 48 ∨ i = 49) → μ' 119 i = μ 119 i
theorem zEk.refl (μ : zM) : zEk μ μ := ⟨fun _ _ => rfl, fun _ _ => rfl⟩
theorem zEk.trans {a b c : zM} (h : zEk a b) (h' : zEk b c) : zEk a c := ⟨fun j hj => (h.1 j hj).trans (h'.1 j hj), fun i hi => (h.2 i hi).trans (h'.2 i hi)⟩
theorem zEk.u {a b : zM} {j : Nat} {i v : Int} (h : zEk a b) (hj : j = 142 ∨ j = 155) : zEk (zU a j i v) b := ⟨fun k hk => by rw [zU_off k (by omega)]; exact h.1 k hk, fun k hk => by rw [zU_off 119 (by omega)]; exact h.2 k hk⟩
/-- what the reference's search reads -/
def mQ (μ X : zM) : Prop := (∀ i : Int, 0 ≤ i ∧ i < 3 → μ 151 i = X 0 i ∧ μ 152 i = X 1 i) ∧ ∀ e : Int, 0 ≤ e ∧ e < 12 → μ 153 e = X 2 e ∧ μ 154 e = X 3 e
theorem mQ.same {μ μ' X : zM} (h : mQ μ X) (e : zEk μ' μ) : mQ μ' X := by
  unfold mQ at *
  rw [e.1 151 (by omega), e.1 152 (by omega), e.1 153 (by omega), e.1 154 (by omega)]
  exact h
section
variable {g : zG} {X : zM} {n : Nat} {D : Nat}
theorem m_coalFrom (hX : iO X) (hn : n ≤ 12) (hD : D < 4096) : ∀ (k i d : Nat) (μ : zM) (T : Int → Int) (P : List Int) (a : zBst) (K : Option zV → zM → Prop), i + k = n → 5 + k ≤ d → μ 119 6 = (n : Int) → mQ μ X → (∀ x, 0 ≤ x ∧ x < 3 → μ 155 x = T x) → (∀ x, 0 ≤ x ∧ x < 3 → 0 ≤ T x ∧ T x + 40 * (k : Int) ≤ 1000) → zli (μ 142) P → P.length ≤ i → mA μ a → (∀ μ', zEk μ' μ → (∀ x, 0 ≤ x ∧ x < 3 → μ' 155 x = T x) → zli (μ' 142) P → mA μ' (cg X (bl D k i) T P a) → K none μ') → zCall g d 243 [.inr (.inr ((0, 12), 119)), .inl (D : Int), .inl (i : Int), .inl (P.length : Int)] μ K := by
  intro k
  induction k with
  | zero =>
    intro i d μ T P a K hi hd h6 hQ hT hb hP hl hA h
    refine sX12_coalFrom ⟨fun q => by omega, fun _ => ?_⟩
    have hb0 := hb 0 (by omega)
    have hb1 := hb 1 (by omega)
    have hb2 := hb 2 (by omega)
    have no : ¬ cg_ok X T → K none μ := by
      intro q
      refine h μ (zEk.refl μ) hT hP ?_
      show mA μ (if cg_ok X T then _ else a)
      rw [if_neg q]
      exact hA
    have lp : ∀ (c x : Nat), x + c = 3 → (∀ y : Nat, y < x → ok1 X T (y : Int)) → zT g d mX12_coalFrom K 11 [some (.inr (.inr ((0, 12), 119))), none, none, some (.inl (P.length : Int)), some (.inl (x : Int))] [] μ := by
      intro c
      induction c with
      | zero =>
        intro x hx hy
        refine sX12_coalFrom_11 ⟨fun _ => ⟨by omega, ?_⟩, fun q => by omega⟩
        rw [hT 2 (by omega), hT 1 (by omega), zwi (x := 1000 * T 2) (by omega) (by omega), zwi (x := 1000 * T 2 + T 1) (by omega) (by omega)]
        refine m_offer hA hP (by omega) (fun M hM hAM => zn (h M ⟨fun j hj => hM.1 j (by omega), fun i hi => hM.2 i hi⟩ (fun x hx => by rw [hM.1 155 (by omega)]; exact hT x hx) (by rw [hM.1 142 (by omega)]; exact hP) ?_))
        have okk : cg_ok X T := ⟨hy 0 (by omega), hy 1 (by omega), hy 2 (by omega)⟩
        show mA M (if cg_ok X T then b_off a (1000 * T 2 + T 1) P else a)
        rw [if_pos okk]
        exact hAM
      | succ c ih =>
        intro x hx hy
        have q0 := hQ.1 (x : Int) (by omega)
        have bx := hb (x : Int) (by omega)
        have xx := (hX.1 (x : Int) (by omega))
        refine sX12_coalFrom_11 ⟨fun q => by omega, fun _ => ⟨by omega, ?_⟩⟩
        rw [hT (x : Int) (by omega), q0.1, q0.2, zwi (x := X 0 (x : Int) - T (x : Int)) (by omega) (by omega)]
        have next : ok1 X T (x : Int) → zT g d mX12_coalFrom K 11 [some (.inr (.inr ((0, 12), 119))), none, none, some (.inl (P.length : Int)), some (.inl (zw ((x : Int) + 1)))] [] μ := by
          intro hk
          rw [zw_suc (by omega)]
          refine ih (x + 1) (by omega) (fun y hyx => ?_)
          by_cases q : y = x
          · subst q; exact hk
          · exact hy y (by omega)
        refine ⟨fun q => next (fun hh => by omega), fun q => ⟨fun q2 => next (fun _ => q2), fun q2 => no (fun hh => ?_)⟩⟩
        have x3 : x = 0 ∨ x = 1 ∨ x = 2 := by omega
        rcases x3 with rfl | rfl | rfl
        · have := hh.1 q
          have e0 : ((0 : Nat) : Int) = 0 := rfl
          rw [e0] at q2
          omega
        · have := hh.2.1 q
          have e0 : ((1 : Nat) : Int) = 1 := rfl
          rw [e0] at q2
          omega
        · have := hh.2.2 q
          have e0 : ((2 : Nat) : Int) = 2 := rfl
          rw [e0] at q2
          omega
    exact lp 3 0 (by omega) (fun y hy => by omega)
  | succ k ih =>
    intro i d μ T P a K hi hd h6 hQ hT hb hP hl hA h
    refine sX12_coalFrom ⟨fun _ => ⟨fun q => ⟨by omega, ?_⟩, fun q => ⟨by omega, ?_⟩⟩, fun q => by omega⟩
    · have tb : D.testBit i = true := by
        rw [z_tst0 (by omega) (by omega)] at q
        simpa using q
      have qe := hQ.2 (i : Int) (by omega)
      have xe := hX.2 (i : Int) (by omega)
      rw [qe.2]
      have cc : cg X (bl D (k + 1) i) T P a = z_lp (fun j a => cg X (bl D k (i + 1)) (cg_up X T i j) (P ++ [(j : Int)]) a) (3 - (X 3 (i : Int)).toNat) (X 3 (i : Int)).toNat a := by
        rw [show bl D (k + 1) i = i :: bl D k (i + 1) from if_pos tb]
        rfl
      have lp : ∀ (c x : Nat) (N : zM) (b : zBst), x + c = 3 → zEk N μ → (∀ x, 0 ≤ x ∧ x < 3 → N 155 x = T x) → zli (N 142) P → mA N b → cg X (bl D (k + 1) i) T P a = z_lp (fun j a => cg X (bl D k (i + 1)) (cg_up X T i j) (P ++ [(j : Int)]) a) c x b → zT g d mX12_coalFrom K 108 [some (.inr (.inr ((0, 12), 119))), some (.inl (D : Int)), some (.inl (i : Int)), some (.inl (P.length : Int)), some (.inl (x : Int))] [] N := by
        intro c
        induction c with
        | zero =>
          intro x N b hx hE hTN hPN hAN hcl
          refine sX12_coalFrom_108 ⟨fun _ => h N hE hTN hPN ?_, fun q => by omega⟩
          rw [hcl]
          exact hAN
        | succ c ih2 =>
          intro x N b hx hE hTN hPN hAN hcl
          have qN := hQ.same hE
          have bx := hb (x : Int) (by omega)
          have hl2 : (P ++ [(x : Int)]).length = P.length + 1 := by simp
          refine sX12_coalFrom_108 ⟨fun q => by omega, fun _ => ⟨by omega, by omega, by omega, by omega, ?_⟩⟩
          rw [hTN (x : Int) (by omega), (qN.2 (i : Int) (by omega)).1, zwi (x := T (x : Int) + X 2 (i : Int)) (by omega) (by omega), zw_suc (by omega), zw_suc (by omega), ← hl2]
          have e2 : zEk (zU (zU N 155 (x : Int) (T (x : Int) + X 2 (i : Int))) 142 (P.length : Int) (x : Int)) N := ((zEk.refl N).u (Or.inr rfl)).u (Or.inl rfl)
          refine ih (i + 1) (d - 1) _ (cg_up X T i x) (P ++ [(x : Int)]) b _ (by omega) (by omega) (by rw [(e2.trans hE).2 6 (by omega)]; exact h6) (qN.same e2) (fun y hy => ?_) (fun y hy => ?_) ?_ (by omega) ?_ (fun Q hQ' hTQ hPQ hAQ => zn ?_)
          · rw [zU_off 155 (by omega)]
            unfold cg_up
            by_cases qy : y = (x : Int)
            · subst qy
              rw [zU_eq, if_pos rfl]
            · rw [zU_ne (by omega), if_neg qy]
              exact hTN y hy
          · have := hb y hy
            unfold cg_up
            split <;> omega
          · rw [zU_row]
            refine zli_snoc ?_
            rw [zU_off 142 (by omega)]
            exact hPN
          · exact mA_same hAN (by rw [zU_off 143 (by omega), zU_off 143 (by omega)]) (by rw [zU_off 119 (by omega), zU_off 119 (by omega)]) (by rw [zU_off 119 (by omega), zU_off 119 (by omega)])
          · have qQ := qN.same (hQ'.trans e2)
            have tx : Q 155 (x : Int) = T (x : Int) + X 2 (i : Int) := by
              rw [hTQ (x : Int) (by omega)]
              exact if_pos rfl
            rw [tx, (qQ.2 (i : Int) (by omega)).1, show T (x : Int) + X 2 (i : Int) - X 2 (i : Int) = T (x : Int) from by omega, zwi (x := T (x : Int)) (by omega) (by omega), zw_suc (by omega)]
            rw [hl2] at *
            refine ih2 (x + 1) _ _ (by omega) (((hQ'.trans e2).trans hE).u (Or.inr rfl)) (fun y hy => ?_) (by rw [zU_off 142 (by omega)]; exact zli_pre hPQ) (mA_same hAQ (zU_off 143 (by omega)) (by rw [zU_off 119 (by omega)]) (by rw [zU_off 119 (by omega)])) ?_
            · by_cases qy : y = (x : Int)
              · subst qy
                exact zU_eq
              · rw [zU_ne (by omega), hTQ y hy]
                exact if_neg qy
            · rw [hcl]
              rfl
      have := lp (3 - (X 3 (i : Int)).toNat) (X 3 (i : Int)).toNat μ a (by omega) (zEk.refl μ) hT hP hA cc
      rw [show (((X 3 (i : Int)).toNat : Nat) : Int) = X 3 (i : Int) from by omega] at this
      exact this
    · have tb : D.testBit i = false := by
        rw [z_tst0 (by omega) (by omega)] at q
        simpa using q
      rw [zw_suc (by omega)]
      refine ih (i + 1) (d - 1) μ T P a _ (by omega) (by omega) h6 hQ hT (fun x hx => by have := hb x hx; omega) hP (by omega) hA (fun M hM hTM hPM hAM => zn (h M hM hTM hPM ?_))
      rw [show bl D (k + 1) i = bl D k (i + 1) from if_neg (by rw [tb]; simp)]
      exact hAM
end
