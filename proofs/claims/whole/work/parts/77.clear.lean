-- needs 76
/-! clear -/
def cl_e (Y : zM) (x : Int) : Int := if Y 1 x = -1 then Y 0 x else Y 1 x
def cl_c (Y : zM) (x : Int) : Nat := (if Y 0 x = -1 then 0 else 1) + (if Y 1 x = -1 then 0 else 1)
def cl_b (e : Int) (F : zM → Int → List Int → zBst → zBst) (Y : zM) (t : Int) (P : List Int) (p : Nat) (a : zBst) : zBst := if f_may Y e (Y 5 1) = true ∧ f_can Y e (p : Int) = true then F (f_bring Y e (p : Int) (f_min Y (f_point Y e) (p : Int))) (t + f_min Y (f_point Y e) (p : Int)) (P ++ [(p : Int)]) a else a
def cl (x : Int) : Nat → zM → Int → List Int → zBst → zBst
  | 0, _, _, _, a => a
  | f + 1, Y, t, P, a => if cl_e Y x = -1 then b_off a t P else z_lp (cl_b (cl_e Y x) (cl x f) Y t P) (Y 13 0 + 1).toNat 0 a
/-- the last one goes -/
def cl_l (e : Int) (Y : zM) (t : Int) (P : List Int) (p : Nat) (a : zBst) : zBst := cl_b e (fun _ t P a => b_off a t P) Y t P p a
def o_clear (S : zS) (x : Int) : Int × zS := if 0 ≤ x ∧ x < S.1 13 0 then (match cl x 3 S.1 0 [] none with
  | none => (-2, S)
  | some q => (q.1, sR S q.2)) else (-1, S)
section
variable {Y : zM} {x p t : Int}
theorem cl_front (h1 : ¬ Y 1 x = -1) (h2 : Y 2 (Y 1 x) = x) (h0 : ¬ Y 0 x = Y 1 x) (hx : ¬ x = -1) (hp : ¬ p = x) : f_bring Y (Y 1 x) p t 1 x = -1 ∧ f_bring Y (Y 1 x) p t 0 x = Y 0 x := by
  have hz : f_out Y (Y 1 x) = zU (zU Y 1 x (-1)) 2 (Y 1 x) (-1) := by
    unfold f_out
    rw [h2, if_neg hx, if_neg h0]
  unfold f_bring f_put f_in
  rw [zU_ne (by omega), zU_ne (by omega), zU_ne (by omega), zU_ne (by omega), hz]
  generalize zU (zU Y 1 x (-1)) 2 (Y 1 x) (-1) 13 0 = n13
  have e1 : zU (zU Y 1 x (-1)) 2 (Y 1 x) (-1) 1 x = -1 := by rw [zU_ne (by omega), zU_eq]
  have e0 : zU (zU Y 1 x (-1)) 2 (Y 1 x) (-1) 0 x = Y 0 x := by rw [zU_ne (by omega), zU_ne (by omega)]
  split
  · exact ⟨e1, e0⟩
  · split
    · exact ⟨by rw [zU_ne (by omega), zU_ne (by omega)]; exact e1, by rw [zU_ne (by omega), zU_ne (by omega)]; exact e0⟩
    · exact ⟨by rw [zU_ne (by omega), zU_ne (by omega)]; exact e1, by rw [zU_ne (by omega), zU_ne (by omega)]; exact e0⟩
theorem cl_back (h1 : Y 1 x = -1) (h2 : Y 2 (Y 0 x) = x) (hx : ¬ x = -1) (hp : ¬ p = x) : f_bring Y (Y 0 x) p t 1 x = -1 ∧ f_bring Y (Y 0 x) p t 0 x = -1 := by
  have hz : f_out Y (Y 0 x) = zU (zU Y 0 x (-1)) 2 (Y 0 x) (-1) := by
    unfold f_out
    rw [h2, if_neg hx, if_pos rfl]
  unfold f_bring f_put f_in
  rw [zU_ne (by omega), zU_ne (by omega), zU_ne (by omega), zU_ne (by omega), hz]
  generalize zU (zU Y 0 x (-1)) 2 (Y 0 x) (-1) 13 0 = n13
  have e1 : zU (zU Y 0 x (-1)) 2 (Y 0 x) (-1) 1 x = -1 := by rw [zU_ne (by omega), zU_ne (by omega)]; exact h1
  have e0 : zU (zU Y 0 x (-1)) 2 (Y 0 x) (-1) 0 x = -1 := by rw [zU_ne (by omega), zU_eq]
  split
  · exact ⟨e1, e0⟩
  · split
    · exact ⟨by rw [zU_ne (by omega), zU_ne (by omega)]; exact e1, by rw [zU_ne (by omega), zU_ne (by omega)]; exact e0⟩
    · exact ⟨by rw [zU_ne (by omega), zU_ne (by omega)]; exact e1, by rw [zU_ne (by omega), zU_ne (by omega)]; exact e0⟩
/-- who stands there foremost: its number, its place, nobody in front -/
theorem cl_eb (hW : y_W Y) (hx : 0 ≤ x ∧ x < 23) (he : ¬ cl_e Y x = -1) : (0 ≤ cl_e Y x ∧ cl_e Y x < Y 13 3) ∧ Y 2 (cl_e Y x) = x ∧ f_point Y (cl_e Y x) = x ∧ f_ahead Y (cl_e Y x) = -1 := by
  have w := (hW.2.2.1 x hx).2
  unfold cl_e at *
  by_cases q : Y 1 x = -1
  · rw [if_pos q] at *
    have h2 := w.2.1 he
    refine ⟨by omega, h2, by unfold f_point; rw [if_neg (by omega), h2], ?_⟩
    unfold f_ahead
    rw [h2, q]
    split <;> rfl
  · rw [if_neg q] at *
    have h2 := (w.2.2 q).1
    refine ⟨by omega, h2, by unfold f_point; rw [if_neg (by omega), h2], ?_⟩
    unfold f_ahead f_atb
    rw [h2, if_neg]
    simp
    intro _ h
    exact (w.2.2 q).2.2 h
theorem cl_can (hW : y_W Y) (hx : 0 ≤ x ∧ x < 23) (he : ¬ cl_e Y x = -1) : f_can Y (cl_e Y x) p = (decide (¬ p = x) && f_stand Y (cl_e Y x) p) := by
  have b := cl_eb hW hx he
  unfold f_can
  rw [b.2.2.1, b.2.2.2]
  simp
/-- behind a move there are fewer -/
theorem cl_step (hW : y_W Y) (hx : 0 ≤ x ∧ x < 23) (he : ¬ cl_e Y x = -1) (hp : ¬ p = x) : cl_c (f_bring Y (cl_e Y x) p t) x < cl_c Y x := by
  have w := (hW.2.2.1 x hx).2
  unfold cl_e at *
  by_cases q : Y 1 x = -1
  · rw [if_pos q] at *
    have h := cl_back (t := t) q (w.2.1 he) (by omega) hp
    unfold cl_c
    rw [h.1, h.2, if_neg he]
    simp [q]
  · rw [if_neg q] at *
    have h := cl_front (t := t) q (w.2.2 q).1 (w.2.2 q).2.2 (by omega) hp
    unfold cl_c
    rw [h.1, h.2, if_neg q, if_neg (w.2.2 q).2.1]
    simp
/-- the last of one alone -/
theorem cl_one (f : Nat) {P : List Int} {a : zBst} (hW : y_W Y) (hx : 0 ≤ x ∧ x < 23) (h1 : Y 1 x = -1) (h0 : ¬ Y 0 x = -1) : cl x (f + 2) Y t P a = z_lp (cl_l (Y 0 x) Y t P) (Y 13 0 + 1).toNat 0 a := by
  have w := (hW.2.2.1 x hx).2
  have ee : cl_e Y x = Y 0 x := by unfold cl_e; rw [if_pos h1]
  show (if cl_e Y x = -1 then b_off a t P else z_lp (cl_b (cl_e Y x) (cl x (f + 1)) Y t P) (Y 13 0 + 1).toNat 0 a) = _
  rw [if_neg (by omega)]
  refine z_lp_congr _ _ _ (fun j a _ _ => ?_)
  unfold cl_l cl_b
  rw [ee]
  by_cases q : f_may Y (Y 0 x) (Y 5 1) = true ∧ f_can Y (Y 0 x) (j : Int) = true
  · rw [if_pos q, if_pos q]
    have c := q.2
    rw [← ee, cl_can hW hx (by omega)] at c
    simp at c
    have h := cl_back (p := (j : Int)) (t := f_min Y (f_point Y (Y 0 x)) (j : Int)) h1 (w.2.1 h0) (by omega) c.1
    show (if cl_e (f_bring Y (Y 0 x) (j : Int) (f_min Y (f_point Y (Y 0 x)) (j : Int))) x = -1 then _ else _) = _
    rw [if_pos]
    unfold cl_e
    rw [h.1, if_pos rfl, h.2]
  · rw [if_neg q, if_neg q]
end
def zEs (μ' μ : zM) : Prop := (∀ j, ¬ (j = 119 ∨ j = 123 ∨ j = 124 ∨ j = 130 ∨ j = 141 ∨ j = 142 ∨ j = 143) → μ' j = μ j) ∧ ∀ i, ¬ (i = 14 ∨ i = 15 ∨ (34 ≤ i ∧ i ≤ 40) ∨ (42 ≤ i ∧ i ≤ 45) ∨ i = 48 ∨ i = 49) → μ' 119 i = μ 119 i
theorem zEs.refl (μ : zM) : zEs μ μ := ⟨fun _ _ => rfl, fun _ _ => rfl⟩
theorem zEs.trans {a b c : zM} (h : zEs a b) (h' : zEs b c) : zEs a c := ⟨fun j hj => (h.1 j hj).trans (h'.1 j hj), fun i hi => (h.2 i hi).trans (h'.2 i hi)⟩
theorem zEs.w {a b : zM} (h : zEw a b) : zEs a b := ⟨fun j hj => h.1 j (by omega), fun i hi => h.2 i (by omega)⟩
theorem zEs.v {a b : zM} (h : zEv a b) : zEs a b := ⟨fun j hj => h.1 j (by omega), fun i hi => h.2 i (by omega)⟩
theorem zEs.m {a b : zM} (h : zEm a b) : zEs a b := ⟨fun j hj => h.1 j (by omega), fun i hi => h.2 i (by omega)⟩
theorem zEs.b {a b : zM} (h : zEb a b) : zEs a b := ⟨fun j hj => h.1 j (by omega), fun i hi => h.2 i (by omega)⟩
theorem zEs.p {a b : zM} {i v : Int} (h : zEs a b) : zEs (zU a 142 i v) b := ⟨fun j hj => by rw [zU_off j (by omega)]; exact h.1 j hj, fun k hk => by rw [zU_off 119 (by omega)]; exact h.2 k hk⟩
theorem zRu_s {μ μ' : zM} {co : Int → Int} {cn : Int} (h : zEs μ' μ) (hR : zRu (μ 138) (μ 119 28) co cn) : zRu (μ' 138) (μ' 119 28) co cn := by
  rw [h.1 138 (by omega), h.2 28 (by omega)]
  exact hR
theorem mA_same {μ μ' : zM} {a : zBst} (h : mA μ a) (h1 : μ' 143 = μ 143) (h2 : μ' 119 48 = μ 119 48) (h3 : μ' 119 49 = μ 119 49) : mA μ' a := by
  cases a with
  | none => exact h2.trans h
  | some q =>
    obtain ⟨k1, k2, k3, k4⟩ := h
    exact ⟨h3.trans k1, h2.trans k2, k3, by rw [h1]; exact k4⟩
section
variable {g : zG} {μ' : zM} {co : Int → Int} {cn x : Int}
theorem m_clearFrom (hx : 0 ≤ x ∧ x < 23) : ∀ (f d : Nat) (μ Y : zM) (t : Int) (P : List Int) (a : zBst) (K : Option zV → zM → Prop), 320 + f ≤ d → vM μ co cn = Y → y_W Y → zRu (μ 138) (μ 119 28) co cn → cl_c Y x < f → (0 ≤ μ 119 42 ∧ μ 119 42 + 4 * f ≤ 256) → zli (μ 142) P → P.length + f ≤ 12 → mA μ a → (0 ≤ t ∧ t + 300 * f ≤ 1000) → Y 5 1 + 300 * f ≤ 399000 → (∀ μ', zEs μ' μ → vM μ' co cn = Y → μ' 119 42 = μ 119 42 → (∀ i, i < μ 119 42 → μ' 141 i = μ 141 i) → zli (μ' 142) P → mA μ' (cl x f Y t P a) → K none μ') → zCall g d 223 [.inr (.inr ((0, 12), 119)), .inl x, .inl (P.length : Int), .inl t] μ K := by
  intro f
  induction f with
  | zero => intro d μ Y t P a K _ _ _ _ hc; omega
  | succ f ih =>
    intro d μ Y t P a K hd hv hW hR hc hh hP hl hA ht hn h
    have w := hW.1
    have v1 : μ 124 x = Y 1 x := by rw [← hv]; exact (y_in hx).symm
    have v0 : μ 123 x = Y 0 x := by rw [← hv]; exact (y_in hx).symm
    have loop : ¬ cl_e Y x = -1 → zT g d mX12_clearFrom K 43 [some (.inr (.inr ((0, 12), 119))), some (.inl x), some (.inl (P.length : Int)), some (.inl t), some (.inl (cl_e Y x)), some (.inl 0), none, none] [] μ := by
      intro he
      have b := cl_eb hW hx he
      have cc : cl x (f + 1) Y t P a = z_lp (cl_b (cl_e Y x) (cl x f) Y t P) (Y 13 0 + 1).toNat 0 a := if_neg he
      have lp : ∀ (k i : Nat) (N : zM) (c : zBst), i + k = (Y 13 0 + 1).toNat → zEs N μ → vM N co cn = Y → N 119 42 = μ 119 42 → (∀ i, i < μ 119 42 → N 141 i = μ 141 i) → zli (N 142) P → mA N c → cl x (f + 1) Y t P a = z_lp (cl_b (cl_e Y x) (cl x f) Y t P) k i c → zT g d mX12_clearFrom K 43 [some (.inr (.inr ((0, 12), 119))), some (.inl x), some (.inl (P.length : Int)), some (.inl t), some (.inl (cl_e Y x)), some (.inl (i : Int)), none, none] [] N := by
        intro k
        induction k with
        | zero =>
          intro i N c hi hE hvN h42 h141 hPN hAN hcl
          have n0 : N 119 0 = Y 13 0 := by rw [← hvN]; rfl
          refine sX12_clearFrom_43 ⟨fun _ => h N hE hvN h42 h141 hPN ?_, fun q => by omega⟩
          rw [hcl]
          exact hAN
        | succ k ih2 =>
          intro i N c hi hE hvN h42 h141 hPN hAN hcl
          have n0 : N 119 0 = Y 13 0 := by rw [← hvN]; rfl
          have n15 : N 119 15 = Y 5 1 := by rw [← hvN]; rfl
          have n6 : N 119 6 = Y 13 3 := by rw [← hvN]; rfl
          have RN := zRu_s hE hR
          have next : ∀ M c', zEs M N → vM M co cn = Y → M 119 42 = μ 119 42 → (∀ i, i < μ 119 42 → M 141 i = μ 141 i) → zli (M 142) P → mA M c' → cl_b (cl_e Y x) (cl x f) Y t P i c = c' → zT g d mX12_clearFrom K 43 [some (.inr (.inr ((0, 12), 119))), some (.inl x), some (.inl (P.length : Int)), some (.inl t), some (.inl (cl_e Y x)), some (.inl (zw ((i : Int) + 1))), none, none] [] M := by
            intro M c' hM k1 k2 k3 k4 k5 k6
            rw [zw_suc (by omega)]
            refine ih2 (i + 1) M c' (by omega) (hM.trans hE) k1 k2 k3 k4 k5 ?_
            rw [hcl, ← k6]
            rfl
          refine sX12_clearFrom_43 ⟨fun q => by omega, fun _ => ⟨by omega, m_mayGo (co := co) (cn := cn) (by omega) (by rw [hvN]; exact hW) (by omega) (fun q1 => zb1 (m_canBe (co := co) (cn := cn) (by omega) (by rw [hvN]; exact hW) RN (by omega) (by omega) (fun M hM q2 => zb1 ?_) (fun M hM q2 => zb0 ?_))) (fun q1 => zb0 ?_)⟩⟩
          · rw [hvN, n15] at q1
            rw [hvN] at q2
            have vM' : vM M co cn = Y := by rw [vM_same (fun j _ _ => hM.1 j (by omega)) (fun i hi => hM.2 i (by omega)), hvN]
            have m42 : M 119 42 = μ 119 42 := by rw [hM.2 42 (by omega), h42]
            have qx : ¬ (i : Int) = x := by
              intro hix
              rw [cl_can hW hx he] at q2
              simp [hix] at q2
            refine m_go (co := co) (cn := cn) (by omega) vM' hW b.1 q2 (by omega) (by omega) (by omega) (fun N2 hN2 h42' h141' hv2 W2 hk => ⟨by omega, ?_⟩)
            have bm := f_min_b hW (a := f_point Y (cl_e Y x)) (b := (i : Int)) (f_point_b hW (by omega)) (by omega)
            rw [zw_suc (by omega), zwi (x := t + f_min Y (f_point Y (cl_e Y x)) (i : Int)) (by omega) (by omega)]
            have hl2 : (P ++ [(i : Int)]).length = P.length + 1 := by simp
            rw [← hl2]
            have e2 : zEs (zU N2 142 (P.length : Int) (i : Int)) N := ((zEs.v hN2).trans (zEs.m hM)).p
            refine ih (d - 1) _ (f_bring Y (cl_e Y x) (i : Int) (f_min Y (f_point Y (cl_e Y x)) (i : Int))) _ (P ++ [(i : Int)]) c _ (by omega) (by rw [mUo (by omega)]; exact hv2) W2 (zRu_s (e2.trans hE) hR) (by have := cl_step (t := f_min Y (f_point Y (cl_e Y x)) (i : Int)) hW hx he qx; omega) (by rw [zU_off 119 (by omega)]; omega) ?_ (by omega) ?_ (by omega) (by rw [f_bring_51]; omega) (fun Q hQ hvQ q42 q141 hPQ hAQ => zn ?_)
            · rw [zU_row]
              refine zli_snoc ?_
              rw [hN2.1 142 (by omega), hM.1 142 (by omega)]
              exact hPN
            · exact mA_same hAN (by rw [zU_off 143 (by omega), hN2.1 143 (by omega), hM.1 143 (by omega)]) (by rw [zU_off 119 (by omega), hN2.2 48 (by omega), hM.2 48 (by omega)]) (by rw [zU_off 119 (by omega), hN2.2 49 (by omega), hM.2 49 (by omega)])
            · rw [zU_off 119 (by omega)] at q42 q141
              rw [zU_off 141 (by omega)] at q141
              refine m_undoC (m_undo (x := M 119 42) (co := co) (cn := cn) (by omega) [(Y, cl_e Y x, (i : Int), f_min Y (f_point Y (cl_e Y x)) (i : Int))] Y Q (by rw [hvQ]; exact W2) ⟨by omega, by rw [q42, h42']; simp, by omega⟩ ?_ (fun Z hZ z42 z141 hvZ => zn ?_))
              · rw [hvQ, q42, h42']
                exact hk (Q 141) (fun j hj => q141 j (by omega))
              · refine next Z _ ((zEs.v hZ).trans (hQ.trans e2)) hvZ (by rw [z42, m42]) (fun j hj => ?_) ?_ (mA_same hAQ (hZ.1 143 (by omega)) (hZ.2 48 (by omega)) (hZ.2 49 (by omega))) (if_pos ⟨q1, q2⟩)
                · rw [z141, q141 j (by omega), h141' j (by omega), hM.1 141 (by omega), h141 j hj]
                · rw [hZ.1 142 (by omega)]
                  exact zli_pre hPQ
          · rw [hvN] at q2
            have vM' : vM M co cn = Y := by rw [vM_same (fun j _ _ => hM.1 j (by omega)) (fun i hi => hM.2 i (by omega)), hvN]
            exact next M c (zEs.m hM) vM' (by rw [hM.2 42 (by omega), h42]) (fun j hj => by rw [hM.1 141 (by omega), h141 j hj]) (by rw [hM.1 142 (by omega)]; exact hPN) (mA_same hAN (hM.1 143 (by omega)) (hM.2 48 (by omega)) (hM.2 49 (by omega))) (if_neg (fun hh => by rw [q2] at hh; cases hh.2))
          · rw [hvN, n15] at q1
            exact next N c (zEs.refl N) hvN h42 h141 hPN hAN (if_neg (fun hh => by rw [q1] at hh; cases hh.1))
      exact lp (Y 13 0 + 1).toNat 0 μ a (by omega) (zEs.refl μ) hv rfl (fun _ _ => rfl) hP hA cc
    refine sX12_clearFrom ⟨hx, fun q => ⟨fun q0 => ?_, fun q0 => ⟨by omega, m_offer hA hP (by omega) (fun M hM hAM => zn (h M (zEs.b hM) ?_ (hM.2 42 (by omega)) (fun j _ => by rw [hM.1 141 (by omega)]) (by rw [hM.1 142 (by omega)]; exact hP) ?_))⟩⟩, fun q => ?_⟩
    · have ee : cl_e Y x = Y 0 x := by unfold cl_e; rw [if_pos (by omega)]
      have := loop (by omega)
      rw [ee, ← v0] at this
      exact this
    · rw [vM_same (fun j _ _ => hM.1 j (by omega)) (fun i hi => hM.2 i (by omega)), hv]
    · have ee : cl_e Y x = -1 := by unfold cl_e; rw [if_pos (by omega)]; omega
      rw [show cl x (f + 1) Y t P a = b_off a t P from if_pos ee]
      exact hAM
    · have ee : cl_e Y x = Y 1 x := by unfold cl_e; rw [if_neg (by omega)]
      have := loop (by omega)
      rw [ee, ← v1] at this
      exact this
end
