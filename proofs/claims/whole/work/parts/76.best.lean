-- needs 75
/-! the best row found: offered, told; a move tried and taken back -/
abbrev zBst : Type := Option (Int × List Int)
def b_off (a : zBst) (t : Int) (p : List Int) : zBst := match a with
  | none => some (t, p)
  | some q => if t < q.1 then some (t, p) else some q
def mA (M : zM) (a : zBst) : Prop := match a with
  | none => M 119 48 = -1
  | some q => M 119 49 = q.1 ∧ M 119 48 = (q.2.length : Int) ∧ q.2.length ≤ 16 ∧ zli (M 143) q.2
def z_lp {A : Type} (f : Nat → A → A) : Nat → Nat → A → A
  | 0, _, a => a
  | k + 1, i, a => z_lp f k (i + 1) (f i a)
theorem z_lp_congr {A : Type} {f f' : Nat → A → A} : ∀ (k i : Nat) (a : A), (∀ j a, i ≤ j → j < i + k → f j a = f' j a) → z_lp f k i a = z_lp f' k i a
  | 0, _, _, _ => rfl
  | k + 1, i, a, h => by
    simp only [z_lp]
    rw [h i a (by omega) (by omega)]
    exact z_lp_congr k (i + 1) _ (fun j b h1 h2 => h j b (by omega) (by omega))
theorem z_lp_id {A : Type} {f : Nat → A → A} : ∀ (k i : Nat) (a : A), (∀ j, i ≤ j → j < i + k → f j a = a) → z_lp f k i a = a
  | 0, _, _, _ => rfl
  | k + 1, i, a, h => by
    simp only [z_lp]
    rw [h i (by omega) (by omega)]
    exact z_lp_id k (i + 1) a (fun j h1 h2 => h j (by omega) (by omega))
/-- what is no better leaves the best as it is -/
def b_le (a : zBst) (t : Int) : Prop := match a with
  | none => False
  | some q => q.1 ≤ t
theorem b_off_le {a : zBst} {t : Int} {p : List Int} (h : b_le a t) : b_off a t p = a := by
  cases a with
  | none => exact False.elim h
  | some q => exact if_neg (by have : q.1 ≤ t := h; omega)
theorem b_le_mono {a : zBst} {t t' : Int} (h : b_le a t) (ht : t ≤ t') : b_le a t' := by
  cases a with
  | none => exact h
  | some q => exact Int.le_trans h ht
theorem zli_pre {f : Int → Int} {l l' : List Int} (h : zli f (l ++ l')) : zli f l := by
  intro k v hk
  refine h k v ?_
  have : k < l.length := by
    rcases Nat.lt_or_ge k l.length with q | q
    · exact q
    · rw [List.getElem?_eq_none q] at hk; cases hk
  rw [List.getElem?_append_left this]
  exact hk
def zEb (μ' μ : zM) : Prop := (∀ j, ¬ (j = 119 ∨ j = 143) → μ' j = μ j) ∧ ∀ i, ¬ (i = 48 ∨ i = 49) → μ' 119 i = μ 119 i
section
variable {g : zG} {d : Nat} {K : Option zV → zM → Prop} {μ μ' Y : zM} {r : List Int} {a : zBst} {co : Int → Int} {cn t e p : Int}
theorem m_offer {P : List Int} (hA : mA μ a) (hP : zli (μ 142) P) (hl : P.length ≤ 16) (h : ∀ μ', zEb μ' μ → mA μ' (b_off a t P) → K none μ') : zCall g d 218 [.inr (.inr ((0, 12), 119)), .inl t, .inl (P.length : Int)] μ K := by
  have lp : ∀ (k i : Nat) (N : zM), i + k = P.length → zEb N μ → N 119 49 = t → N 119 48 = (P.length : Int) → (∀ (j : Nat) (v : Int), j < i → P[j]? = some v → N 143 (j : Int) = v) → b_off a t P = some (t, P) → zT g d mX12_offer K 29 [some (.inr (.inr ((0, 12), 119))), none, some (.inl (P.length : Int)), some (.inl (i : Int))] [] N := by
    intro k
    induction k with
    | zero =>
      intro i N hi hE h49 h48 hj hb
      refine sX12_offer_29 ⟨fun _ => h N hE ?_, fun q => by omega⟩
      rw [hb]
      refine ⟨h49, h48, hl, fun j v hv => hj j v ?_ hv⟩
      rcases Nat.lt_or_ge j P.length with q | q
      · omega
      · rw [List.getElem?_eq_none q] at hv; cases hv
    | succ k ih =>
      intro i N hi hE h49 h48 hj hb
      refine sX12_offer_29 ⟨fun q => by omega, fun _ => ⟨by omega, ?_⟩⟩
      rw [zw_suc (by omega)]
      refine ih (i + 1) _ (by omega) ⟨fun j hj => by rw [zU_off j (by omega)]; exact hE.1 j hj, fun i hi => by rw [zU_off 119 (by omega)]; exact hE.2 i hi⟩ (by rw [zU_off 119 (by omega)]; exact h49) (by rw [zU_off 119 (by omega)]; exact h48) (fun j v hji hv => ?_) hb
      by_cases q : j = i
      · subst q
        rw [zU_eq, hE.1 142 (by omega)]
        exact hP j v hv
      · rw [zU_ne (by omega)]
        exact hj j v (by omega) hv
  have go : b_off a t P = some (t, P) → zT g d mX12_offer K 29 [some (.inr (.inr ((0, 12), 119))), none, some (.inl (P.length : Int)), some (.inl 0)] [] (zU (zU μ 119 49 t) 119 48 (P.length : Int)) := fun hb =>
    lp P.length 0 _ (by omega) ⟨fun j hj => by rw [zU_off j (by omega), zU_off j (by omega)], fun i hi => by rw [zU_ne (by omega), zU_ne (by omega)]⟩ (by rw [zU_ne (by omega), zU_eq]) zU_eq (fun j v hj _ => by omega) hb
  cases a with
  | none =>
    have h48 : μ 119 48 = -1 := hA
    exact sX12_offer ⟨fun _ => go rfl, fun q => absurd h48 q⟩
  | some q =>
    obtain ⟨h49, h48, hq, hz⟩ := hA
    refine sX12_offer ⟨fun q => by omega, fun _ => ⟨fun q2 => go (if_pos (by omega)), fun q2 => h μ ⟨fun _ _ => rfl, fun _ _ => rfl⟩ ?_⟩⟩
    rw [show b_off (some q) t P = some q from if_neg (by omega)]
    exact ⟨h49, h48, hq, hz⟩
theorem m_tellBest (hA : mA μ (some (t, r))) (hr : r.length ≤ 12) (hd : 1 ≤ d) (h : ∀ μ', zE32 μ' μ → mR μ' r → K none μ') : zCall g d 219 [.inr (.inr ((0, 12), 119))] μ K := by
  obtain ⟨h49, h48, hq, hz⟩ := hA
  have h48 : μ 119 48 = (r.length : Int) := h48
  have hz : zli (μ 143) r := hz
  have lp : ∀ (suf pre : List Int) (N : zM), pre ++ suf = r → zE32 N μ → mR N pre → zT g d mX12_tellBest K 7 [some (.inr (.inr ((0, 12), 119))), some (.inl (pre.length : Int))] [] N := by
    intro suf
    induction suf with
    | nil =>
      intro pre N hp hE hm
      rw [List.append_nil] at hp
      subst hp
      exact sX12_tellBest_7 ⟨fun _ => h N hE hm, fun q => by rw [hE.2 48 (by omega)] at q; omega⟩
    | cons v suf ih =>
      intro pre N hp hE hm
      have hl : pre.length + (suf.length + 1) = r.length := by rw [← hp]; simp
      have hv : μ 143 (pre.length : Int) = v := hz pre.length v (by rw [← hp]; simp)
      refine sX12_tellBest_7 ⟨fun q => by rw [hE.2 48 (by omega)] at q; omega, fun _ => ⟨by omega, hd, ?_⟩⟩
      rw [hE.1 143 (by omega), hv]
      refine m_tellR hm (by omega) (fun Q hQ hm2 => zn ?_)
      rw [zw_suc (by omega)]
      have := ih (pre ++ [v]) Q (by rw [← hp]; simp) (hQ.trans hE) hm2
      rw [show (pre ++ [v]).length = pre.length + 1 from by simp] at this
      exact this
  exact sX12_tellBest (lp r [] _ rfl zE32_0 mR_0)
/-- one goes, for so many minutes, and can come back -/
theorem m_go (hd : 2 ≤ d) (hv : vM μ co cn = Y) (hW : y_W Y) (he : 0 ≤ e ∧ e < Y 13 3) (hc : f_can Y e p = true) (hp : 0 ≤ p ∧ p ≤ Y 13 0) (hn : Y 5 1 ≤ 399000) (h42 : 0 ≤ μ 119 42 ∧ μ 119 42 ≤ 252) {F : Int → zM → Prop}
    (hF : ∀ N, zEv N μ → N 119 42 = μ 119 42 + 4 → (∀ i, i < μ 119 42 → N 141 i = μ 141 i) → vM N co cn = f_bring Y e p (f_min Y (f_point Y e) p) → y_W (f_bring Y e p (f_min Y (f_point Y e) p)) → (∀ P : Int → Int, (∀ i, i < μ 119 42 + 4 → P i = N 141 i) → h_ok P (μ 119 42 + 4) [(Y, e, p, f_min Y (f_point Y e) p)] (f_bring Y e p (f_min Y (f_point Y e) p)) Y) → F (f_min Y (f_point Y e) p) N) :
    zCall g d 208 [.inr (.inr ((0, 12), 119)), .inl e, .inl p] μ (zIi fun r4 μ3 => zCall g d 212 [.inr (.inr ((0, 12), 119)), .inl e, .inl p, .inl r4] μ3 (zNn fun μ5 => F r4 μ5)) := by
  have w := hW.1
  have m0 : μ 119 0 = Y 13 0 := by rw [← hv]; rfl
  have m6 : μ 119 6 = Y 13 3 := by rw [← hv]; rfl
  have he' : 0 ≤ e ∧ e < 12 := by omega
  have bp := f_point_b hW he'
  have bm := f_min_b hW bp (b := p) (by omega)
  have hc' := hc
  unfold f_can f_stand at hc'
  simp at hc'
  have hpp : p = Y 13 0 ∨ (0 ≤ p ∧ p < Y 13 0 ∧ Y 1 p = -1) := by
    rcases hc'.2.2 with q | q
    · exact Or.inl q
    · unfold f_takes at q
      simp at q
      by_cases q2 : p = Y 13 0
      · exact Or.inl q2
      · exact Or.inr ⟨by omega, by omega, q.2.1⟩
  refine m_cost (co := co) (cn := cn) hd (by rw [hv]; exact hW) (by omega) (by omega) (zi ?_)
  rw [hv]
  refine m_bring (co := co) (cn := cn) (by omega) (by rw [hv]; exact hW) (by omega) (by rw [hv]; exact hc'.2.1) (by omega) (by omega) h42 (fun N hE hN42 hNP hNp hvN => zn ?_)
  rw [hv] at hNp hvN
  refine hF N hE hN42 (fun i hi => hNP i (by omega)) hvN (w_bring hW he hc'.2.1 hpp (by omega)) (fun P hP => ?_)
  simp only [h_ok]
  refine ⟨⟨trivial, hW, he, hc'.2.1, hpp, hc'.1, by omega⟩, ⟨?_, ?_, ?_, ?_⟩, trivial⟩
  · rw [show μ 119 42 + 4 - 4 = μ 119 42 from by omega, hP _ (by omega)]; exact hNp.1
  · rw [show μ 119 42 + 4 - 3 = μ 119 42 + 1 from by omega, hP _ (by omega)]; exact hNp.2.1
  · rw [show μ 119 42 + 4 - 2 = μ 119 42 + 2 from by omega, hP _ (by omega)]; exact hNp.2.2.1
  · rw [show μ 119 42 + 4 - 1 = μ 119 42 + 3 from by omega, hP _ (by omega)]; exact hNp.2.2.2
end
