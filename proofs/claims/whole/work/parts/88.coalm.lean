-- needs 87
/-! coaled, fill: the reference's calls -/
/-- what a row takes of each grade -/
def ct (X : zM) : List Nat → List Int → (Int → Int) → (Int → Int)
  | e :: es, j :: r, T => ct X es r (fun x => if x = j then T x + X 2 (e : Int) else T x)
  | _, _, T => T
def ts (X : zM) : List Nat → Int
  | [] => 0
  | e :: es => X 2 (e : Int) + ts X es
def cg_row (X : zM) (es : List Nat) (T : Int → Int) (t : Int) (r : List Int) : Prop := r.length = es.length ∧ (∀ j ∈ r, 0 ≤ j ∧ j < 3) ∧ t = 1000 * ct X es r T 2 + ct X es r T 1 ∧ cg_ok X (ct X es r T)
theorem cg_is (X : zM) : ∀ (es : List Nat) (T : Int → Int) (P : List Int) (a : zBst) (q : Int × List Int), cg X es T P a = some q → a = some q ∨ ∃ r, q.2 = P ++ r ∧ cg_row X es T q.1 r := by
  intro es
  induction es with
  | nil =>
    intro T P a q hq
    have hq : (if cg_ok X T then b_off a (1000 * T 2 + T 1) P else a) = some q := hq
    by_cases ok : cg_ok X T
    · rw [if_pos ok] at hq
      have hit : some (1000 * T 2 + T 1, P) = some q → a = some q ∨ ∃ r, q.2 = P ++ r ∧ cg_row X [] T q.1 r := by
        intro h
        cases h
        exact Or.inr ⟨[], by simp, rfl, (fun j hj => by cases hj), rfl, ok⟩
      cases a with
      | none => exact hit hq
      | some p =>
        by_cases c : 1000 * T 2 + T 1 < p.1
        · rw [show b_off (some p) (1000 * T 2 + T 1) P = some (1000 * T 2 + T 1, P) from if_pos c] at hq
          exact hit hq
        · rw [show b_off (some p) (1000 * T 2 + T 1) P = some p from if_neg c] at hq
          exact Or.inl hq
    · rw [if_neg ok] at hq
      exact Or.inl hq
  | cons e es ih =>
    intro T P a q hq
    have lp : ∀ (c x : Nat) (b : zBst), (c = 0 ∨ x + c ≤ 3) → (∀ q, b = some q → a = some q ∨ ∃ r, q.2 = P ++ r ∧ cg_row X (e :: es) T q.1 r) → ∀ q, z_lp (fun j a => cg X es (cg_up X T e j) (P ++ [(j : Int)]) a) c x b = some q → a = some q ∨ ∃ r, q.2 = P ++ r ∧ cg_row X (e :: es) T q.1 r := by
      intro c
      induction c with
      | zero => intro x b _ hb q hq; exact hb q hq
      | succ c ih2 =>
        intro x b hx hb q hq
        refine ih2 (x + 1) _ (by omega) (fun q' hq' => ?_) q hq
        rcases ih _ _ _ _ hq' with h1 | ⟨r, h1, h2, h3, h4, h5⟩
        · exact hb q' h1
        · refine Or.inr ⟨(x : Int) :: r, by rw [h1]; simp, by simp [h2], fun j hj => ?_, h4, h5⟩
          rcases List.mem_cons.1 hj with h | h
          · omega
          · exact h3 j h
    exact lp _ _ a (by omega) (fun q h => Or.inl h) q hq
theorem ct_b (X : zM) (hX : iO X) : ∀ (es : List Nat) (r : List Int) (T : Int → Int) (m : Int), (∀ e ∈ es, e < 12) → (∀ x, 0 ≤ T x ∧ T x ≤ m) → ∀ x, 0 ≤ ct X es r T x ∧ ct X es r T x ≤ m + 40 * (es.length : Int)
  | [], r, T, m, _, hT, x => by
    have := hT x
    simp only [ct, List.length_nil]
    omega
  | e :: es, [], T, m, _, hT, x => by
    have := hT x
    simp only [ct, List.length_cons]
    omega
  | e :: es, j :: r, T, m, he, hT, x => by
    have xe := hX.2 (e : Int) (by have := he e (by simp); omega)
    have := ct_b X hX es r (fun x => if x = j then T x + X 2 (e : Int) else T x) (m + 40) (fun e' h => he e' (by simp [h])) (fun x => by have := hT x; show 0 ≤ (if x = j then T x + X 2 (e : Int) else T x) ∧ (if x = j then T x + X 2 (e : Int) else T x) ≤ m + 40; split <;> omega) x
    simp only [ct, List.length_cons]
    omega
theorem bl_lt (D : Nat) : ∀ (k i : Nat), ∀ e ∈ bl D k i, e < i + k
  | 0, i, e, h => by cases h
  | k + 1, i, e, h => by
    unfold bl at h
    split at h
    · rcases List.mem_cons.1 h with h | h
      · omega
      · have := bl_lt D k (i + 1) e h; omega
    · have := bl_lt D k (i + 1) e h; omega
theorem bl_len (D : Nat) : ∀ (k i : Nat), (bl D k i).length + fr_c D i = fr_c D (i + k)
  | 0, i => by simp [bl]
  | k + 1, i => by
    have := bl_len D k (i + 1)
    simp only [fr_c] at this
    unfold bl
    rw [show i + (k + 1) = i + 1 + k from by omega]
    split
    · rename_i h
      rw [if_pos h] at this
      simp only [List.length_cons]
      omega
    · rename_i h
      rw [if_neg h] at this
      omega
theorem ts_b (X : zM) (hX : iO X) : ∀ (es : List Nat), (∀ e ∈ es, e < 12) → 0 ≤ ts X es ∧ ts X es ≤ 40 * (es.length : Int)
  | [], _ => by simp [ts]
  | e :: es, he => by
    have xe := hX.2 (e : Int) (by have := he e (by simp); omega)
    have := ts_b X hX es (fun e' h => he e' (by simp [h]))
    simp only [ts, List.length_cons]
    omega
abbrev cn_ok (n x : Int) : Prop := 0 < x ∧ x < ((2 ^ n.toNat : Nat) : Int) ∧ fr_c x.toNat 12 ≤ 7
section
variable {g : zG} {d : Nat} {K : Option zV → zM → Prop} {μ X : zM} {n : Nat} {D : Nat} {x : Int}
theorem p2_12 {n : Nat} (h : n ≤ 12) : (2 ^ n : Nat) ≤ 4096 := Nat.pow_le_pow_right (n := 2) (by omega) h
theorem m_areEngines (hd : 1 ≤ d) (h6 : μ 119 6 = (n : Int)) (hn : n ≤ 12) (h1 : cn_ok (n : Int) x → K (some (.inl 1)) μ) (h0 : ¬ cn_ok (n : Int) x → K (some (.inl 0)) μ) : zCall g d 242 [.inr (.inr ((0, 12), 119)), .inl x] μ K := by
  have p := p2_12 hn
  have tn : ((n : Int)).toNat = n := by omega
  unfold cn_ok at h1 h0
  rw [tn] at h1 h0
  refine sX12_areEngines ⟨fun q => h0 (fun hh => by omega), fun q => ?_⟩
  rw [h6, zshl_all n (by omega)]
  refine ⟨fun q2 => h0 (fun hh => by omega), fun q2 => ⟨by omega, ?_⟩⟩
  have xm : x = ((x.toNat : Nat) : Int) := by omega
  rw [xm]
  refine j_bcn (by omega) (zi ⟨fun q3 => h0 (fun hh => by omega), fun q3 => h1 ⟨q, q2, by omega⟩⟩)
theorem m_canCoal (hd : 20 ≤ d) (hX : iO X) (hn : n ≤ 12) (hD : D < 4096) (h6 : μ 119 6 = (n : Int)) (hQ : mQ μ X) (hT : ∀ x, 0 ≤ x ∧ x < 3 → μ 155 x = 0)
    (h : ∀ μ', zEk μ' μ → (∀ x, 0 ≤ x ∧ x < 3 → μ' 155 x = 0) → mA μ' (cg X (bl D n 0) (fun _ => 0) [] none) → K (some (.inl (if cg X (bl D n 0) (fun _ => 0) [] none = none then 0 else 1))) μ') : zCall g d 244 [.inr (.inr ((0, 12), 119)), .inl (D : Int)] μ K := by
  have e1 : zEk (zU μ 119 48 (-1)) μ := ⟨fun j hj => zU_off j (by omega), fun i hi => zU_ne (by omega)⟩
  refine sX12_canCoal ⟨by omega, m_coalFrom hX hn hD n 0 (d - 1) _ (fun _ => 0) [] none _ (by omega) (by omega) (by rw [zU_ne (by omega)]; exact h6) (hQ.same e1) (fun x hx => by rw [zU_off 155 (by omega)]; exact hT x hx) (fun x hx => by simp; omega) (zli_nil _) (by simp) zU_eq (fun M hM hTM hPM hA => zn ?_)⟩
  have hk := h M (hM.trans e1) hTM hA
  generalize cg X (bl D n 0) (fun _ => 0) [] none = a at *
  cases a with
  | none =>
    have hA : M 119 48 = -1 := hA
    refine ⟨fun _ => ?_, fun q => absurd hA q⟩
    rw [if_pos rfl] at hk
    exact hk
  | some q =>
    obtain ⟨a1, a2, a3, a4⟩ := hA
    refine ⟨fun q => by omega, fun _ => ?_⟩
    rw [if_neg (fun hh => by cases hh)] at hk
    exact hk
end
