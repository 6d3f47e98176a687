-- needs 30 35 45 46 50 51
/-! THE STATE that class and reference are both held against: Y the yard; t the text; r the row; c who comes; l who leaves; X the rest: 0 there, 1 stays, 2 tons, 3 grade, 4 minute, 5 kind, 6 away, 7 planned, 8 (trains, version), 9 the versions kept, 10 + 6 i + k part k of what is kept at i -/
def zli (f : Int → Int) (l : List Int) : Prop := ∀ (k : Nat) (v : Int), l[k]? = some v → f (k : Int) = v
/-- where one stands in a list; -1: nowhere -/
def zix : List Int → Int → Int
  | [], _ => -1
  | a :: l, e => if a = e then 0 else if zix l e = -1 then -1 else zix l e + 1
def cT (μ : zM) (t : List Int) : Prop := μ 12 1 = (t.length : Int) ∧ zli (μ 13) t
def cR (μ : zM) (r : List Int) : Prop := μ 18 1 = (r.length : Int) ∧ zli (μ 19) r
def cB (μ : zM) (c l : List Int) : Prop := (μ 62 4 = (c.length : Int) ∧ zli (μ 63) c) ∧ μ 62 6 = (l.length : Int) ∧ ∀ e : Int, 0 ≤ e ∧ e < 12 → μ 64 e = zix l e
def cO (μ : zM) (X : zM) : Prop := (∀ i : Int, 0 ≤ i ∧ i < 3 → μ 71 i = X 0 i ∧ μ 72 i = X 1 i) ∧ ∀ e : Int, 0 ≤ e ∧ e < 12 → μ 10 e = X 2 e ∧ μ 11 e = X 3 e
/-- the trains in the order of their minutes, equal ones by number -/
def z_turn (f m : Int → Int) (n : Int) : Prop := (∀ i, 0 ≤ i ∧ i < n → 0 ≤ f i ∧ f i < n) ∧ (∀ i j, 0 ≤ i → i < j → j < n → m (f i) < m (f j) ∨ (m (f i) = m (f j) ∧ f i < f j)) ∧ ∀ t, 0 ≤ t ∧ t < n → ∃ i, (0 ≤ i ∧ i < n) ∧ f i = t
def cN (μ : zM) (X : zM) : Prop := μ 78 3 = X 8 0 ∧ (∀ i : Int, 0 ≤ i ∧ i < X 8 0 → μ 79 i = X 4 i ∧ μ 80 i = X 5 i ∧ μ 81 i = X 6 i) ∧ (∀ i : Int, 0 ≤ i ∧ i < 8 → μ 82 i = X 7 i) ∧ z_turn (μ 83) (X 4) (X 8 0)
/-- the dead as bits -/
def z_dd (D : Int → Int) : Int := ((f_bits (fun e => decide (D (e : Int) = 1)) 12 : Nat) : Int)
def cK (μ : zM) (X : zM) : Prop := μ 0 13 = X 8 1 ∧ ∀ i : Nat, i < 3 → μ 103 (i : Int) = X 9 (i : Int) ∧ (¬ X 9 (i : Int) = -1 → μ (104 + 5 * i) 2 = z_dd (X (10 + 6 * i + 4)) ∧ ∀ k : Nat, k < 6 → vC μ (104 + 5 * i) k = X (10 + 6 * i + k))
def cY (μ Y : zM) : Prop := vC μ 20 = Y ∧ zrl μ ∧ μ 12 4 = 29 - μ 12 2 ∧ μ 20 2 = z_dd (Y 4)
/-- the class's cells -/
def cC (μ Y : zM) (t r c l : List Int) (X : zM) : Prop := cY μ Y ∧ cT μ t ∧ cR μ r ∧ cB μ c l ∧ cO μ X ∧ cN μ X ∧ cK μ X
def mT (μ : zM) (t : List Int) : Prop := μ 119 30 = (t.length : Int) ∧ ∀ (k : Nat) (v : Int), t[k]? = some v → μ 139 (k : Int) = if v < 128 then v else v - 256
def mR (μ : zM) (r : List Int) : Prop := μ 119 32 = (r.length : Int) ∧ zli (μ 140) r
def mB (μ : zM) (c l : List Int) : Prop := (μ 119 23 = (c.length : Int) ∧ zli (μ 136) c) ∧ μ 119 25 = (l.length : Int) ∧ zli (μ 137) l
def mO (μ : zM) (X : zM) : Prop := (∀ i : Int, 0 ≤ i ∧ i < 3 → μ 151 i = X 0 i ∧ μ 152 i = X 1 i ∧ μ 155 i = 0) ∧ ∀ e : Int, 0 ≤ e ∧ e < 12 → μ 153 e = X 2 e ∧ μ 154 e = X 3 e
def mN (μ : zM) (X : zM) : Prop := μ 119 18 = X 8 0 ∧ ∀ i : Int, 0 ≤ i ∧ i < X 8 0 → μ 132 i = X 4 i ∧ μ 133 i = X 5 i ∧ μ 134 i = X 6 i ∧ μ 135 i = X 7 i
/-- what the reference keeps -/
def vK (μ : zM) (m : Int) (i : Nat) : zM := fun k x => match k with
  | 0 => y_cl 23 (fun j => μ 169 (23 * (i : Int) + j)) x
  | 1 => y_cl 23 (fun j => μ 170 (23 * (i : Int) + j)) x
  | 2 => y_cl m (fun j => μ 171 (12 * (i : Int) + j)) x
  | 3 => y_cl m (fun j => μ 172 (12 * (i : Int) + j)) x
  | 4 => y_cl 12 (fun j => μ 173 (12 * (i : Int) + j)) x
  | _ => y_cl 2 (fun j => if j = 0 then μ 174 (i : Int) else μ 175 (i : Int)) x
def mK (μ : zM) (m : Int) (X : zM) : Prop := μ 119 74 = X 8 1 ∧ ∀ i : Nat, i < 3 → ((μ 167 (i : Int) = 1 ∧ ¬ X 9 (i : Int) = -1 ∧ μ 168 (i : Int) = X 9 (i : Int)) ∨ (μ 167 (i : Int) = 0 ∧ X 9 (i : Int) = -1)) ∧ (X 9 (i : Int) = X 8 1 → ∀ k : Nat, k < 6 → vK μ m i k = X (10 + 6 * i + k))
def mY (μ Y : zM) : Prop := vM μ (Y 14) (Y 15 0) = Y ∧ zRu (μ 138) (μ 119 28) (Y 14) (Y 15 0) ∧ μ 119 42 = 0
/-- the reference's cells -/
def mC (μ Y : zM) (t r c l : List Int) (X : zM) : Prop := mY μ Y ∧ mT μ t ∧ mR μ r ∧ mB μ c l ∧ mO μ X ∧ mN μ X ∧ mK μ (Y 13 3) X
/-- what is kept, in the yard as it is now -/
def z_kept (Y X : zM) (i : Nat) : zM := fun k x => if k < 6 then X (10 + 6 * i + k) x else Y k x
def iT (t : List Int) : Prop := t.length ≤ 60 ∧ ∀ v ∈ t, 0 ≤ v ∧ v < 256
def iB (Y : zM) (c l : List Int) : Prop := c.length ≤ 6 ∧ c.Nodup ∧ (∀ e ∈ c, 0 ≤ e ∧ e < Y 13 3) ∧ l.Nodup ∧ ∀ e ∈ l, e ∈ c
def iO (X : zM) : Prop := (∀ i : Int, 0 ≤ i ∧ i < 3 → 0 ≤ X 0 i ∧ X 0 i ≤ 999 ∧ 0 ≤ X 1 i ∧ X 1 i ≤ 999) ∧ ∀ e : Int, 0 ≤ e ∧ e < 12 → 0 ≤ X 2 e ∧ X 2 e ≤ 40 ∧ 0 ≤ X 3 e ∧ X 3 e ≤ 2
def iN (Y X : zM) : Prop := (0 ≤ X 8 0 ∧ X 8 0 ≤ 8) ∧ (∀ i : Int, 0 ≤ i ∧ i < X 8 0 → (0 ≤ X 4 i ∧ X 4 i ≤ 2000 ∧ 0 ≤ X 5 i ∧ X 5 i ≤ 5 ∧ 1 ≤ X 6 i ∧ X 6 i ≤ 600) ∧ -1 ≤ X 7 i ∧ X 7 i < Y 13 3) ∧ (∀ i : Int, X 8 0 ≤ i ∧ i < 8 → X 7 i = -1) ∧ ∀ i j : Int, 0 ≤ i ∧ i < X 8 0 → 0 ≤ j ∧ j < X 8 0 → ¬ X 7 i = -1 → X 7 i = X 7 j → i = j
def iK (n : Int) (Y X : zM) : Prop := (0 ≤ X 8 1 ∧ X 8 1 ≤ n) ∧ ∀ i : Nat, i < 3 → (-1 ≤ X 9 (i : Int) ∧ X 9 (i : Int) ≤ X 8 1) ∧ (X 9 (i : Int) = X 8 1 → y_W (z_kept Y X i) ∧ X (10 + 6 * i + 5) 1 ≤ 600 * n)
def iY (n : Int) (Y : zM) : Prop := y_W Y ∧ y_R Y ∧ Y 5 1 ≤ 600 * n
/-- what is true of the state behind n calls -/
def zI (n : Int) (Y : zM) (t r c l : List Int) (X : zM) : Prop := (0 ≤ n ∧ n ≤ 512) ∧ iY n Y ∧ iT t ∧ r.length ≤ 12 ∧ iB Y c l ∧ iO X ∧ iN Y X ∧ iK n Y X
/-- the reference's cells stay; the class's stay -/
def zEc (μ' μ : zM) : Prop := ∀ j, 119 ≤ j → μ' j = μ j
def zEd (μ' μ : zM) : Prop := ∀ j, (j < 119 ∨ 176 ≤ j) → μ' j = μ j
section
variable {μ μ' Y X : zM} {t r c l : List Int}
theorem cT.same (h : cT μ t) (e1 : μ' 12 1 = μ 12 1) (e2 : μ' 13 = μ 13) : cT μ' t := by
  unfold cT at *
  rw [e1, e2]; exact h
theorem cR.same (h : cR μ r) (e1 : μ' 18 1 = μ 18 1) (e2 : μ' 19 = μ 19) : cR μ' r := by
  unfold cR at *
  rw [e1, e2]; exact h
theorem cB.same (h : cB μ c l) (e1 : μ' 62 4 = μ 62 4) (e2 : μ' 62 6 = μ 62 6) (e3 : μ' 63 = μ 63) (e4 : μ' 64 = μ 64) : cB μ' c l := by
  unfold cB at *
  rw [e1, e2, e3, e4]; exact h
theorem cO.same (h : cO μ X) (e1 : μ' 71 = μ 71) (e2 : μ' 72 = μ 72) (e3 : μ' 10 = μ 10) (e4 : μ' 11 = μ 11) : cO μ' X := by
  unfold cO at *
  rw [e1, e2, e3, e4]; exact h
theorem cN.same (h : cN μ X) (e1 : μ' 78 3 = μ 78 3) (e2 : ∀ j, 79 ≤ j → j ≤ 83 → μ' j = μ j) : cN μ' X := by
  unfold cN at *
  rw [e1, e2 79 (by omega) (by omega), e2 80 (by omega) (by omega), e2 81 (by omega) (by omega), e2 82 (by omega) (by omega), e2 83 (by omega) (by omega)]; exact h
theorem vC_low {s k : Nat} (hk : k < 6) (h : ∀ j, s ≤ j → j ≤ s + 4 → μ' j = μ j) : vC μ' s k = vC μ s k := by
  have : k = 0 ∨ k = 1 ∨ k = 2 ∨ k = 3 ∨ k = 4 ∨ k = 5 := by omega
  funext i
  rcases this with rfl | rfl | rfl | rfl | rfl | rfl <;> simp only [vC]
  · rw [h _ (by omega) (by omega)]
  · rw [h _ (by omega) (by omega)]
  · rw [h _ (by omega) (by omega)]
  · rw [h _ (by omega) (by omega)]
  · rw [h _ (by omega) (by omega)]
  · rw [h _ (by omega) (by omega)]
theorem cK.same (h : cK μ X) (e1 : μ' 0 13 = μ 0 13) (e2 : ∀ j, 103 ≤ j → j ≤ 118 → μ' j = μ j) : cK μ' X := by
  refine ⟨by rw [e1]; exact h.1, fun i hi => ⟨by rw [e2 103 (by omega) (by omega)]; exact (h.2 i hi).1, fun q => ⟨by rw [e2 _ (by omega) (by omega)]; exact ((h.2 i hi).2 q).1, fun k hk => ?_⟩⟩⟩
  rw [vC_low hk (fun j h1 h2 => e2 j (by omega) (by omega))]
  exact ((h.2 i hi).2 q).2 k hk
theorem cY.same (h : cY μ Y) (e1 : ∀ j, (1 ≤ j ∧ j ≤ 9) ∨ (j = 12 ∨ j = 14 ∨ j = 15) ∨ (20 ≤ j ∧ j ≤ 24) → μ' j = μ j) : cY μ' Y := by
  obtain ⟨h1, h2, h3, h4⟩ := h
  refine ⟨?_, zrl_same h2 (e1 12 (by omega)), by rw [e1 12 (by omega)]; exact h3, by rw [e1 20 (by omega)]; exact h4⟩
  rw [← h1]
  funext q x
  match q with
  | 0 => simp only [vC]; rw [e1 21 (by omega)]
  | 1 => simp only [vC]; rw [e1 22 (by omega)]
  | 2 => simp only [vC]; rw [e1 23 (by omega)]
  | 3 => simp only [vC]; rw [e1 24 (by omega)]
  | 4 => simp only [vC]; rw [e1 20 (by omega)]
  | 5 => simp only [vC]; rw [e1 20 (by omega)]
  | 6 => simp only [vC]; rw [e1 2 (by omega)]
  | 7 => simp only [vC]; rw [e1 3 (by omega)]
  | 8 => simp only [vC]; rw [e1 4 (by omega)]
  | 9 => simp only [vC]; rw [e1 6 (by omega)]
  | 10 => simp only [vC]; rw [e1 7 (by omega)]
  | 11 => simp only [vC]; rw [e1 8 (by omega)]
  | 12 => simp only [vC]; rw [e1 9 (by omega)]
  | 13 => simp only [vC]; rw [e1 5 (by omega), e1 1 (by omega)]
  | 14 =>
    simp only [vC]
    rw [e1 12 (by omega)]
    rcases h2 with hr | hr <;> rw [hr]
    · rw [show ((14 : Int)).toNat = 14 from rfl, e1 14 (by omega)]
    · rw [show ((15 : Int)).toNat = 15 from rfl, e1 15 (by omega)]
  | 15 => simp only [vC]; rw [e1 12 (by omega)]
  | q + 16 => simp only [vC]
/-- the class's cells that are no picture of the state -/
def z_scr (j : Nat) : Prop := j = 16 ∨ j = 17 ∨ (25 ≤ j ∧ j ≤ 61) ∨ (65 ≤ j ∧ j ≤ 70) ∨ (73 ≤ j ∧ j ≤ 77) ∨ (84 ≤ j ∧ j ≤ 102)
/-- all but those, and the row -/
theorem cC.row {r' : List Int} (h : cC μ Y t r c l X) (e : ∀ j, ¬ z_scr j → ¬ (j = 18 ∨ j = 19) → μ' j = μ j) (hr : cR μ' r') : cC μ' Y t r' c l X := by
  unfold z_scr at e
  obtain ⟨h1, h2, h3, h4, h5, h6, h7⟩ := h
  refine ⟨h1.same (fun j hj => e j (by omega) (by omega)), h2.same (by rw [e 12 (by omega) (by omega)]) (e 13 (by omega) (by omega)), hr, h4.same (by rw [e 62 (by omega) (by omega)]) (by rw [e 62 (by omega) (by omega)]) (e 63 (by omega) (by omega)) (e 64 (by omega) (by omega)), h5.same (e 71 (by omega) (by omega)) (e 72 (by omega) (by omega)) (e 10 (by omega) (by omega)) (e 11 (by omega) (by omega)), h6.same (by rw [e 78 (by omega) (by omega)]) (fun j _ _ => e j (by omega) (by omega)), h7.same (by rw [e 0 (by omega) (by omega)]) (fun j _ _ => e j (by omega) (by omega))⟩
theorem cC.same (h : cC μ Y t r c l X) (e : ∀ j, ¬ z_scr j → μ' j = μ j) : cC μ' Y t r c l X :=
  h.row (fun j h1 _ => e j h1) (h.2.2.1.same (by rw [e 18 (by unfold z_scr; omega)]) (e 19 (by unfold z_scr; omega)))
theorem mT.same (h : mT μ t) (e1 : μ' 119 30 = μ 119 30) (e2 : μ' 139 = μ 139) : mT μ' t := by
  unfold mT at *
  rw [e1, e2]; exact h
theorem mR.same (h : mR μ r) (e1 : μ' 119 32 = μ 119 32) (e2 : μ' 140 = μ 140) : mR μ' r := by
  unfold mR at *
  rw [e1, e2]; exact h
theorem mB.same (h : mB μ c l) (e1 : μ' 119 23 = μ 119 23) (e2 : μ' 119 25 = μ 119 25) (e3 : μ' 136 = μ 136) (e4 : μ' 137 = μ 137) : mB μ' c l := by
  unfold mB at *
  rw [e1, e2, e3, e4]; exact h
theorem mO.same (h : mO μ X) (e : ∀ j, 151 ≤ j → j ≤ 155 → μ' j = μ j) : mO μ' X := by
  unfold mO at *
  rw [e 151 (by omega) (by omega), e 152 (by omega) (by omega), e 153 (by omega) (by omega), e 154 (by omega) (by omega), e 155 (by omega) (by omega)]; exact h
theorem mN.same (h : mN μ X) (e1 : μ' 119 18 = μ 119 18) (e2 : ∀ j, 132 ≤ j → j ≤ 135 → μ' j = μ j) : mN μ' X := by
  unfold mN at *
  rw [e1, e2 132 (by omega) (by omega), e2 133 (by omega) (by omega), e2 134 (by omega) (by omega), e2 135 (by omega) (by omega)]; exact h
theorem mK.same {m : Int} (h : mK μ m X) (e1 : μ' 119 74 = μ 119 74) (e2 : ∀ j, 167 ≤ j → j ≤ 175 → μ' j = μ j) : mK μ' m X := by
  have ev : ∀ i, vK μ' m i = vK μ m i := by
    intro i
    funext k x
    unfold vK
    rw [e2 169 (by omega) (by omega), e2 170 (by omega) (by omega), e2 171 (by omega) (by omega), e2 172 (by omega) (by omega), e2 173 (by omega) (by omega), e2 174 (by omega) (by omega), e2 175 (by omega) (by omega)]
  refine ⟨by rw [e1]; exact h.1, fun i hi => ⟨by rw [e2 167 (by omega) (by omega), e2 168 (by omega) (by omega)]; exact (h.2 i hi).1, fun q k hk => ?_⟩⟩
  rw [ev]
  exact (h.2 i hi).2 q k hk
theorem mY.same (h : mY μ Y) (e1 : ∀ j, 120 ≤ j → j ≤ 131 → μ' j = μ j) (e2 : ∀ i, i = 0 ∨ i = 6 ∨ 14 ≤ i ∧ i ≤ 17 ∨ i = 28 ∨ i = 42 → μ' 119 i = μ 119 i) (e3 : μ' 138 = μ 138) : mY μ' Y := by
  obtain ⟨h1, h2, h3⟩ := h
  refine ⟨?_, by rw [e3, e2 28 (by omega)]; exact h2, by rw [e2 42 (by omega)]; exact h3⟩
  rw [vM_same e1 (fun i hi => e2 i (by omega))]
  exact h1
/-- the reference's cells, and slots of its own, that are no picture of the state -/
def z_scm (j : Nat) : Prop := (141 ≤ j ∧ j ≤ 150) ∨ (156 ≤ j ∧ j ≤ 166)
def z_scs (i : Int) : Prop := (33 ≤ i ∧ i ≤ 41) ∨ (43 ≤ i ∧ i ≤ 73)
theorem mC.row {r' : List Int} (h : mC μ Y t r c l X) (e : ∀ j, ¬ z_scm j → ¬ (j = 119 ∨ j = 140) → μ' j = μ j) (e2 : ∀ i, ¬ z_scs i → ¬ i = 32 → μ' 119 i = μ 119 i) (hr : mR μ' r') : mC μ' Y t r' c l X := by
  unfold z_scm at e
  unfold z_scs at e2
  obtain ⟨h1, h2, h3, h4, h5, h6, h7⟩ := h
  refine ⟨h1.same (fun j _ _ => e j (by omega) (by omega)) (fun i hi => e2 i (by omega) (by omega)) (e 138 (by omega) (by omega)), h2.same (e2 30 (by omega) (by omega)) (e 139 (by omega) (by omega)), hr, h4.same (e2 23 (by omega) (by omega)) (e2 25 (by omega) (by omega)) (e 136 (by omega) (by omega)) (e 137 (by omega) (by omega)), h5.same (fun j _ _ => e j (by omega) (by omega)), h6.same (e2 18 (by omega) (by omega)) (fun j _ _ => e j (by omega) (by omega)), h7.same (e2 74 (by omega) (by omega)) (fun j _ _ => e j (by omega) (by omega))⟩
theorem mC.same (h : mC μ Y t r c l X) (e : ∀ j, ¬ z_scm j → ¬ j = 119 → μ' j = μ j) (e2 : ∀ i, ¬ z_scs i → μ' 119 i = μ 119 i) : mC μ' Y t r c l X :=
  h.row (fun j h1 h2 => e j h1 (by omega)) (fun i h1 _ => e2 i h1) (h.2.2.1.same (e2 32 (by unfold z_scs; omega)) (e 140 (by unfold z_scm; omega) (by omega)))
/-- a new row, told one by one -/
theorem zli_nil (f : Int → Int) : zli f [] := fun k v h => by simp at h
theorem zli_snoc {f : Int → Int} {v : Int} (h : zli f l) : zli (fun b => if b = (l.length : Int) then v else f b) (l ++ [v]) := by
  intro k w hk
  by_cases q : k < l.length
  · rw [List.getElem?_append_left q] at hk
    show (if (k : Int) = (l.length : Int) then v else f k) = w
    rw [if_neg (by omega)]
    exact h k w hk
  · rw [List.getElem?_append_right (by omega)] at hk
    have hk0 : k - l.length = 0 := by
      rcases Nat.eq_zero_or_pos (k - l.length) with h0 | h0
      · exact h0
      · rw [List.getElem?_eq_none (by simp; omega)] at hk; cases hk
    rw [hk0] at hk
    simp at hk
    show (if (k : Int) = (l.length : Int) then v else f k) = w
    rw [if_pos (by omega)]
    exact hk
theorem zU_row {j : Nat} {i v : Int} : zU μ j i v j = fun b => if b = i then v else μ j b := by
  funext b
  simp [zU]
end
