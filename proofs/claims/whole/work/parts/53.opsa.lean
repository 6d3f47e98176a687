-- needs 50 51 52
/-! operations, both sides: the small ones -/
abbrev zS : Type := zM × List Int × List Int × List Int × List Int × zM
def cS (μ : zM) (S : zS) : Prop := cC μ S.1 S.2.1 S.2.2.1 S.2.2.2.1 S.2.2.2.2.1 S.2.2.2.2.2
def mS (μ : zM) (S : zS) : Prop := mC μ S.1 S.2.1 S.2.2.1 S.2.2.2.1 S.2.2.2.2.1 S.2.2.2.2.2
def iS (n : Int) (S : zS) : Prop := zI n S.1 S.2.1 S.2.2.1 S.2.2.2.1 S.2.2.2.2.1 S.2.2.2.2.2
/-- another yard, another row, another rest -/
def sY (S : zS) (Y : zM) : zS := (Y, S.2)
def sR (S : zS) (r : List Int) : zS := (S.1, S.2.1, r, S.2.2.2)
def sT (S : zS) (t : List Int) : zS := (S.1, t, S.2.2)
def sB (S : zS) (c l : List Int) : zS := (S.1, S.2.1, S.2.2.1, c, l, S.2.2.2.2.2)
def sX (S : zS) (X : zM) : zS := (S.1, S.2.1, S.2.2.1, S.2.2.2.1, S.2.2.2.2.1, X)
abbrev zX (S : zS) : zM := S.2.2.2.2.2
section
variable {μ μ' Y : zM} {S : zS} {i v n : Int} {j k : Nat}
theorem zEc.refl (μ : zM) : zEc μ μ := fun _ _ => rfl
theorem zEc.trans {a b c : zM} (h : zEc a b) (h' : zEc b c) : zEc a c := fun j hj => (h j hj).trans (h' j hj)
theorem zEc.u {a b : zM} (h : zEc a b) (hj : j < 119) : zEc (zU a j i v) b := fun q hq => by rw [zU_off q (by omega)]; exact h q hq
theorem zEd.refl (μ : zM) : zEd μ μ := fun _ _ => rfl
theorem zEd.trans {a b c : zM} (h : zEd a b) (h' : zEd b c) : zEd a c := fun j hj => (h j hj).trans (h' j hj)
theorem zEd.u {a b : zM} (h : zEd a b) (hj : 119 ≤ j ∧ j < 176) : zEd (zU a j i v) b := fun q hq => by rw [zU_off q (by omega)]; exact h q hq
theorem cY.u {i' : Int} (h : cY μ Y) (e : vC (zU μ j i v) 20 = zU (vC μ 20) k i' v) (hj : ¬ j = 12) (hk : ¬ k = 4) (h2 : j = 20 → ¬ i = 2) : cY (zU μ j i v) (zU Y k i' v) :=
  ⟨by rw [e, h.1], zrl_U h.2.1 hj, by rw [zU_off 12 (fun q => hj q.symm)]; exact h.2.2.1, by rw [zU_ne (by omega), zU_off 4 (fun q => hk q.symm)]; exact h.2.2.2⟩
theorem cS.yard (h : cS μ S) (hY : cY μ' Y) (e : ∀ j, ¬ ((1 ≤ j ∧ j ≤ 9) ∨ (20 ≤ j ∧ j ≤ 24)) → ¬ z_scr j → μ' j = μ j) : cS μ' (sY S Y) := by
  unfold z_scr at e
  obtain ⟨h1, h2, h3, h4, h5, h6, h7⟩ := h
  exact ⟨hY, h2.same (by rw [e 12 (by omega) (by omega)]) (e 13 (by omega) (by omega)), h3.same (by rw [e 18 (by omega) (by omega)]) (e 19 (by omega) (by omega)), h4.same (by rw [e 62 (by omega) (by omega)]) (by rw [e 62 (by omega) (by omega)]) (e 63 (by omega) (by omega)) (e 64 (by omega) (by omega)), h5.same (e 71 (by omega) (by omega)) (e 72 (by omega) (by omega)) (e 10 (by omega) (by omega)) (e 11 (by omega) (by omega)), h6.same (by rw [e 78 (by omega) (by omega)]) (fun j _ _ => e j (by omega) (by omega)), h7.same (by rw [e 0 (by omega) (by omega)]) (fun j _ _ => e j (by omega) (by omega))⟩
/-- a new version -/
theorem cS.ver (h : cS μ S) : cS (zU μ 0 13 v) (sX S (zU (zX S) 8 1 v)) := by
  obtain ⟨h1, h2, h3, h4, h5, h6, h7⟩ := h
  refine ⟨h1.same (fun j hj => zU_off j (by omega)), h2.same (by rw [zU_off 12 (by omega)]) (zU_off 13 (by omega)), h3.same (by rw [zU_off 18 (by omega)]) (zU_off 19 (by omega)), h4.same (by rw [zU_off 62 (by omega)]) (by rw [zU_off 62 (by omega)]) (zU_off 63 (by omega)) (zU_off 64 (by omega)), ?_, ?_, ?_⟩
  · have := h5.same (μ' := zU μ 0 13 v) (zU_off 71 (by omega)) (zU_off 72 (by omega)) (zU_off 10 (by omega)) (zU_off 11 (by omega))
    unfold cO sX zX at *
    simp only [] at *
    rw [zU_off 0 (by omega), zU_off 1 (by omega), zU_off 2 (by omega), zU_off 3 (by omega)]
    exact this
  · have := h6.same (μ' := zU μ 0 13 v) (by rw [zU_off 78 (by omega)]) (fun j _ _ => zU_off j (by omega))
    unfold cN sX zX at *
    simp only [] at *
    rw [zU_ne (a := 8) (b := 0) (by omega), zU_off 4 (by omega), zU_off 5 (by omega), zU_off 6 (by omega), zU_off 7 (by omega)]
    exact this
  · refine ⟨by show zU μ 0 13 v 0 13 = zU (zX S) 8 1 v 8 1; rw [zU_eq, zU_eq], fun i hi => ?_⟩
    have := h7.2 i hi
    unfold sX zX at *
    simp only [] at *
    rw [zU_off 9 (by omega), zU_off 103 (by omega)]
    refine ⟨this.1, fun q => ⟨?_, fun k hk => ?_⟩⟩
    · rw [zU_off (10 + 6 * i + 4) (by omega), zU_off (104 + 5 * i) (by omega)]
      exact (this.2 q).1
    · rw [zU_off (10 + 6 * i + k) (by omega), vC_low hk (fun j h1 h2 => zU_off j (by omega))]
      exact (this.2 q).2 k hk
theorem mY.u {i' : Int} (h : mY μ Y) (e : vM (zU μ j i v) (Y 14) (Y 15 0) = zU (vM μ (Y 14) (Y 15 0)) k i' v) (hk : k < 14) (hj : ¬ j = 138 ∧ (j = 119 → ¬ (i = 28 ∨ i = 42))) : mY (zU μ j i v) (zU Y k i' v) := by
  obtain ⟨h1, h2, h3⟩ := h
  unfold mY
  rw [zU_off 14 (by omega), zU_off 15 (by omega), e, h1, zU_off 138 (by omega), zU_ne (a := 119) (b := 28) (by omega), zU_ne (a := 119) (b := 42) (by omega)]
  exact ⟨rfl, h2, h3⟩
theorem mS.yard (h : mS μ S) (hY : mY μ' Y) (e : ∀ j, ¬ ((119 ≤ j ∧ j ≤ 131) ∨ j = 138) → ¬ z_scm j → μ' j = μ j) (e2 : ∀ i, ¬ (i = 0 ∨ i = 6 ∨ 14 ≤ i ∧ i ≤ 17 ∨ i = 28 ∨ i = 42) → ¬ z_scs i → μ' 119 i = μ 119 i) (hy6 : Y 13 3 = S.1 13 3 := by rfl) : mS μ' (sY S Y) := by
  unfold z_scm at e
  unfold z_scs at e2
  obtain ⟨h1, h2, h3, h4, h5, h6, h7⟩ := h
  have h7 : mK μ (Y 13 3) (zX S) := by rw [hy6]; exact h7
  exact ⟨hY, h2.same (e2 30 (by omega) (by omega)) (e 139 (by omega) (by omega)), h3.same (e2 32 (by omega) (by omega)) (e 140 (by omega) (by omega)), h4.same (e2 23 (by omega) (by omega)) (e2 25 (by omega) (by omega)) (e 136 (by omega) (by omega)) (e 137 (by omega) (by omega)), h5.same (fun j _ _ => e j (by omega) (by omega)), h6.same (e2 18 (by omega) (by omega)) (fun j _ _ => e j (by omega) (by omega)), h7.same (e2 74 (by omega) (by omega)) (fun j _ _ => e j (by omega) (by omega))⟩
theorem mS.ver1 (h1 : mY μ S.1) (h2 : mT μ S.2.1) (h3 : mR μ S.2.2.1) (h4 : mB μ S.2.2.2.1 S.2.2.2.2.1) (h5 : mO μ (zX S)) (h6 : mN μ (zX S)) (h7 : ∀ i : Nat, i < 3 → ((μ 167 (i : Int) = 1 ∧ ¬ zX S 9 (i : Int) = -1 ∧ μ 168 (i : Int) = zX S 9 (i : Int)) ∨ (μ 167 (i : Int) = 0 ∧ zX S 9 (i : Int) = -1))) (hv : ∀ i : Nat, i < 3 → ¬ zX S 9 (i : Int) = v) : mS (zU μ 119 74 v) (sX S (zU (zX S) 8 1 v)) := by
  refine ⟨h1.same (fun j _ _ => zU_off j (by omega)) (fun i hi => zU_ne (by omega)) (zU_off 138 (by omega)), h2.same (zU_ne (by omega)) (zU_off 139 (by omega)), h3.same (zU_ne (by omega)) (zU_off 140 (by omega)), h4.same (zU_ne (by omega)) (zU_ne (by omega)) (zU_off 136 (by omega)) (zU_off 137 (by omega)), ?_, ?_, ?_⟩
  · have := h5.same (μ' := zU μ 119 74 v) (fun j _ _ => zU_off j (by omega))
    unfold mO sX zX at *
    simp only [] at *
    rw [zU_off (μ := S.2.2.2.2.2) 0 (by omega), zU_off (μ := S.2.2.2.2.2) 1 (by omega), zU_off (μ := S.2.2.2.2.2) 2 (by omega), zU_off (μ := S.2.2.2.2.2) 3 (by omega)]
    exact this
  · have := h6.same (μ' := zU μ 119 74 v) (zU_ne (by omega)) (fun j _ _ => zU_off j (by omega))
    unfold mN sX zX at *
    simp only [] at *
    rw [zU_ne (μ := S.2.2.2.2.2) (a := 8) (b := 0) (by omega), zU_off (μ := S.2.2.2.2.2) 4 (by omega), zU_off (μ := S.2.2.2.2.2) 5 (by omega), zU_off (μ := S.2.2.2.2.2) 6 (by omega), zU_off (μ := S.2.2.2.2.2) 7 (by omega)]
    exact this
  · refine ⟨by show zU μ 119 74 v 119 74 = zU (zX S) 8 1 v 8 1; rw [zU_eq, zU_eq], fun i hi => ?_⟩
    have := h7 i hi
    unfold sX zX at *
    simp only [] at *
    rw [zU_off (μ := S.2.2.2.2.2) 9 (by omega), zU_off (μ := μ) 167 (by omega), zU_off (μ := μ) 168 (by omega)]
    refine ⟨this, fun q k hk => ?_⟩
    rw [zU_eq] at q
    exact absurd q (hv i hi)
theorem mS.ver (h : mS μ S) (hv : ∀ i : Nat, i < 3 → ¬ zX S 9 (i : Int) = v) : mS (zU μ 119 74 v) (sX S (zU (zX S) 8 1 v)) := by
  obtain ⟨h1, h2, h3, h4, h5, h6, h7⟩ := h
  exact mS.ver1 h1 h2 h3 h4 h5 h6 (fun i hi => (h7.2 i hi).1) hv
/-- another yard, any, and another version -/
theorem mS.yver (h : mS μ S) (hY : mY μ' Y) (e : ∀ j, ¬ ((119 ≤ j ∧ j ≤ 131) ∨ j = 138) → ¬ z_scm j → μ' j = μ j) (e2 : ∀ i, ¬ (i = 0 ∨ i = 6 ∨ 14 ≤ i ∧ i ≤ 17 ∨ i = 28 ∨ i = 42) → ¬ z_scs i → μ' 119 i = μ 119 i) (hv : ∀ i : Nat, i < 3 → ¬ zX S 9 (i : Int) = v) : mS (zU μ' 119 74 v) (sX (sY S Y) (zU (zX S) 8 1 v)) := by
  unfold z_scm at e
  unfold z_scs at e2
  obtain ⟨h1, h2, h3, h4, h5, h6, h7⟩ := h
  exact mS.ver1 (S := sY S Y) hY (h2.same (e2 30 (by omega) (by omega)) (e 139 (by omega) (by omega))) (h3.same (e2 32 (by omega) (by omega)) (e 140 (by omega) (by omega))) (h4.same (e2 23 (by omega) (by omega)) (e2 25 (by omega) (by omega)) (e 136 (by omega) (by omega)) (e 137 (by omega) (by omega))) (h5.same (fun j _ _ => e j (by omega) (by omega))) (h6.same (e2 18 (by omega) (by omega)) (fun j _ _ => e j (by omega) (by omega))) (fun i hi => by rw [e 167 (by omega) (by omega), e 168 (by omega) (by omega)]; exact (h7.2 i hi).1) hv
/-- the reference's own note of a throw -/
theorem mS.thr (h : mS μ S) : mS (zU μ 119 33 v) S := mC.same h (fun j _ hj => zU_off j hj) (fun i hi => zU_ne (by unfold z_scs at hi; omega))
theorem mS.scr (h : mS μ S) (e : ∀ j, ¬ z_scm j → ¬ j = 119 → μ' j = μ j) (e2 : ∀ i, ¬ z_scs i → μ' 119 i = μ 119 i) : mS μ' S := mC.same h e e2
theorem mS.m (h : mS μ S) (e : zEm μ' μ) : mS μ' S := h.scr (fun j _ hj => e.1 j hj) (fun i hi => e.2 i (by unfold z_scs at hi; omega))
theorem zEd.m (e : zEm μ' μ) : zEd μ' μ := fun j hj => e.1 j (by omega)
/-- what the cells are, by the state -/
theorem cS.env (h : cS μ S) : μ 1 0 = S.1 13 0 ∧ μ 1 1 = S.1 13 1 ∧ μ 1 2 = S.1 13 2 ∧ μ 5 0 = S.1 13 3 ∧ μ 20 0 = S.1 5 0 ∧ μ 20 1 = S.1 5 1 := by
  have hY := h.1.1
  rw [← hY]
  simp [vC, y_cl]
theorem mS.env (h : mS μ S) : μ 119 0 = S.1 13 0 ∧ μ 119 16 = S.1 13 1 ∧ μ 119 17 = S.1 13 2 ∧ μ 119 6 = S.1 13 3 ∧ μ 119 14 = S.1 5 0 ∧ μ 119 15 = S.1 5 1 := by
  have hY := h.1.1
  generalize hco : S.1 14 = co at *
  generalize hcn : S.1 15 0 = cn at *
  rw [← hY]
  simp [vM, y_cl]
theorem cS.en (h : cS μ S) {e : Int} (he : 0 ≤ e ∧ e < 12) : μ 23 e = S.1 2 e ∧ μ 24 e = S.1 3 e ∧ μ 6 e = S.1 9 e ∧ μ 7 e = S.1 10 e ∧ μ 8 e = S.1 11 e := by
  have hY := h.1.1
  rw [← hY]
  exact ⟨(y_in he).symm, (y_in he).symm, (y_in he).symm, (y_in he).symm, (y_in he).symm⟩
theorem mS.en (h : mS μ S) {e : Int} (he : 0 ≤ e ∧ e < 12 ∧ e < S.1 13 3) : μ 130 e = S.1 2 e ∧ μ 131 e = S.1 3 e ∧ μ 125 e = S.1 9 e ∧ μ 126 e = S.1 10 e ∧ μ 127 e = S.1 11 e ∧ μ 129 e = S.1 4 e := by
  have h6 : μ 119 6 = S.1 13 3 := h.env.2.2.2.1
  have hY := h.1.1
  rw [← h6] at he
  generalize hco : S.1 14 = co at *
  generalize hcn : S.1 15 0 = cn at *
  rw [← hY]
  exact ⟨(y_in ⟨he.1, he.2.2⟩).symm, (y_in ⟨he.1, he.2.2⟩).symm, (y_in ⟨he.1, he.2.1⟩).symm, (y_in ⟨he.1, he.2.1⟩).symm, (y_in ⟨he.1, he.2.1⟩).symm, (y_in ⟨he.1, he.2.1⟩).symm⟩
theorem mS.en1 (h : mS μ S) {e : Int} (he : 0 ≤ e ∧ e < 12) : μ 125 e = S.1 9 e ∧ μ 126 e = S.1 10 e ∧ μ 127 e = S.1 11 e ∧ μ 129 e = S.1 4 e := by
  have hY := h.1.1
  generalize hco : S.1 14 = co at *
  generalize hcn : S.1 15 0 = cn at *
  rw [← hY]
  exact ⟨(y_in he).symm, (y_in he).symm, (y_in he).symm, (y_in he).symm⟩
theorem cS.st (h : cS μ S) {e : Int} (he : 0 ≤ e ∧ e < 23) : μ 21 e = S.1 0 e ∧ μ 22 e = S.1 1 e := by
  have hY := h.1.1
  rw [← hY]
  exact ⟨(y_in he).symm, (y_in he).symm⟩
theorem mS.st (h : mS μ S) {e : Int} (he : 0 ≤ e ∧ e < 23) : μ 123 e = S.1 0 e ∧ μ 124 e = S.1 1 e := by
  have hY := h.1.1
  generalize hco : S.1 14 = co at *
  generalize hcn : S.1 15 0 = cn at *
  rw [← hY]
  exact ⟨(y_in he).symm, (y_in he).symm⟩
theorem iS.W (h : iS n S) : y_W S.1 := h.2.1.1
theorem iS.R (h : iS n S) : y_R S.1 := h.2.1.2.1
theorem iS.now (h : iS n S) : S.1 5 1 ≤ 307200 := by
  have h1 := h.1
  have h2 := h.2.1.2.2
  omega
theorem iS.env (h : iS n S) : (4 ≤ S.1 13 0 ∧ S.1 13 0 ≤ 23 ∧ 1 ≤ S.1 13 1 ∧ S.1 13 1 ≤ 9 ∧ 0 ≤ S.1 13 2 ∧ S.1 13 2 ≤ 9 ∧ 0 ≤ S.1 13 3 ∧ S.1 13 3 ≤ 12) ∧ 0 ≤ S.1 5 0 ∧ S.1 5 0 ≤ S.1 13 0 ∧ 0 ≤ S.1 5 1 := ⟨h.2.1.1.1, h.2.1.1.2.1.1, h.2.1.1.2.1.2.1, h.2.1.1.2.1.2.2.1⟩
theorem cS.W (h : cS μ S) (hI : iS n S) : y_W (vC μ 20) := by rw [h.1.1]; exact hI.W
theorem mS.W (h : mS μ S) (hI : iS n S) : y_W (vM μ (S.1 14) (S.1 15 0)) := by rw [h.1.1]; exact hI.W
end
