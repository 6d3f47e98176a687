-- needs 9i
/-! the morning: one train of the reference -/
def zErt (μ' μ : zM) : Prop := (∀ j, ¬ (j = 119 ∨ j = 123 ∨ j = 124 ∨ j = 130 ∨ j = 141 ∨ j = 160 ∨ (162 ≤ j ∧ j ≤ 166)) → μ' j = μ j) ∧ ∀ i, ¬ (i = 14 ∨ i = 15 ∨ (34 ≤ i ∧ i ≤ 40) ∨ (42 ≤ i ∧ i ≤ 45)) → μ' 119 i = μ 119 i
theorem zErt.refl (μ : zM) : zErt μ μ := ⟨fun _ _ => rfl, fun _ _ => rfl⟩
theorem zErt.trans {a b c : zM} (h : zErt a b) (h' : zErt b c) : zErt a c := ⟨fun j hj => (h.1 j hj).trans (h'.1 j hj), fun i hi => (h.2 i hi).trans (h'.2 i hi)⟩
theorem zErt.u {a b : zM} {j : Nat} {i v : Int} (h : zErt a b) (hj : j = 160 ∨ (162 ≤ j ∧ j ≤ 166)) : zErt (zU a j i v) b := ⟨fun k hk => by rw [zU_off k (by omega)]; exact h.1 k hk, fun k hk => by rw [zU_off 119 (by omega)]; exact h.2 k hk⟩
/-- the notes on other trains stay -/
def r_ot (μ' μ : zM) (t : Int) : Prop := ∀ i, ¬ i = t → μ' 160 i = μ 160 i ∧ μ' 162 i = μ 162 i ∧ μ' 163 i = μ 163 i ∧ μ' 164 i = μ 164 i ∧ μ' 165 i = μ 165 i ∧ μ' 166 i = μ 166 i
theorem r_ot.refl (μ : zM) (t : Int) : r_ot μ μ t := fun _ _ => ⟨rfl, rfl, rfl, rfl, rfl, rfl⟩
theorem r_ot.trans {a b c : zM} {t : Int} (h : r_ot a b t) (h' : r_ot b c t) : r_ot a c t := fun i hi => ⟨(h i hi).1.trans (h' i hi).1, (h i hi).2.1.trans (h' i hi).2.1, (h i hi).2.2.1.trans (h' i hi).2.2.1, (h i hi).2.2.2.1.trans (h' i hi).2.2.2.1, (h i hi).2.2.2.2.1.trans (h' i hi).2.2.2.2.1, (h i hi).2.2.2.2.2.trans (h' i hi).2.2.2.2.2⟩
theorem r_ot.u {a b : zM} {j : Nat} {t v : Int} (h : r_ot a b t) : r_ot (zU a j t v) b t := fun i hi => by
  rw [zU_ne (by omega), zU_ne (by omega), zU_ne (by omega), zU_ne (by omega), zU_ne (by omega), zU_ne (by omega)]
  exact h i hi
theorem r_ot.e {a b : zM} {t : Int} (h : ∀ j, (j = 160 ∨ (162 ≤ j ∧ j ≤ 166)) → a j = b j) : r_ot a b t := fun i _ => ⟨by rw [h 160 (by omega)], by rw [h 162 (by omega)], by rw [h 163 (by omega)], by rw [h 164 (by omega)], by rw [h 165 (by omega)], by rw [h 166 (by omega)]⟩
/-- what the reference has noted of a train -/
def r_nt (N L : zM) (m t : Int) : Prop := N 160 t = L 0 t ∧ (0 ≤ L 0 t → (0 ≤ N 162 t ∧ N 162 t ≤ 330000) ∧ (0 ≤ N 163 t ∧ N 163 t ≤ 330000) ∧ (0 ≤ N 164 t ∧ N 164 t ≤ 234) ∧ L 1 t = (if N 166 t = 0 then 0 else max 0 (N 162 t - (m - N 164 t))) ∧ L 2 t = max 0 (N 163 t - (m - N 164 t)) ∧ N 165 t = L 3 t)
section
variable {g : zG} {d : Nat} {K : Option zV → zM → Prop} {μ Y X B : zM} {co : Int → Int} {cn t v : Int} {q : zMo} {l : List (zM × Int × Int × Int)}
theorem m_go200 (hd : 325 ≤ d) (hv : vM μ co cn = zU q.1 5 1 v) (ok : mo_ok Y q.1) (hq : q.1 5 1 = q.2.1) (fb : Y 5 1 ≤ q.2.1 ∧ q.2.1 ≤ 325000) (hR : zRu (μ 138) (μ 119 28) co cn) (hb : 0 ≤ Y 5 1 ∧ Y 5 1 ≤ 320000) (ht : 0 ≤ t ∧ t < 8) (e132 : μ 132 t = X 4 t) (hX : 0 ≤ X 7 t ∧ X 7 t < Y 13 3) (h4 : 0 ≤ X 4 t ∧ X 4 t ≤ 2000) (h42 : μ 119 42 = 4 * l.length) (hl : l.length ≤ 20) (hk : h_okn (μ 141) (μ 119 42) l q.1 B)
    (q2 : ¬ q.1 4 (X 7 t) = 1) (q3 : ¬ q.1 2 (X 7 t) = -1) (m160 : μ 160 t = -1) (m162 : μ 162 t = q.2.1) (m163 : μ 163 t = mo_rd2 q.1 (Y 5 1) (X 7 t)) (m166 : μ 166 t = 1)
    (h : ∀ (μ' : zM) (v' : Int) (l' : List (zM × Int × Int × Int)), zErt μ' μ → vM μ' co cn = zU (mo_step X (Y 5 1) t q).1 5 1 v' → ((mo_step X (Y 5 1) t q).2.1 ≤ v' ∧ v' ≤ 330000) → (mo_step X (Y 5 1) t q).1 5 1 = (mo_step X (Y 5 1) t q).2.1 → r_nt μ' (mo_step X (Y 5 1) t q).2.2.2 (X 4 t) t → r_ot μ' μ t → μ' 119 42 = 4 * l'.length → l'.length ≤ l.length + 2 → h_okn (μ' 141) (μ' 119 42) l' (mo_step X (Y 5 1) t q).1 B → K (some (.inl (mo_step X (Y 5 1) t q).2.1)) μ') : zT g d mX12_goTrain K 200 [some (.inr (.inr ((0, 12), 119))), some (.inl t), none, some (.inl q.2.1), some (.inl (X 7 t)), none] [] μ := by
  have w := mo_ok_b ok
  have e13 : q.1 13 = Y 13 := ok.2.2 13 (by omega) (by omega)
  have he' : 0 ≤ X 7 t ∧ X 7 t < 12 := by rw [← e13] at hX; omega
  have rb := mo_rd2_b ok he'
  have q1 : ¬ X 7 t = -1 := by omega
  refine sX12_goTrain_200 ⟨by omega, by omega, ?_⟩
  rw [m163]
  generalize hD : zU μ 119 15 (max q.2.1 (mo_rd2 q.1 (Y 5 1) (X 7 t))) = D
  have vD : vM D co cn = mo_Z1 q.1 (Y 5 1) q.2.1 (X 7 t) := by
    have := mU5 (μ := μ) (co := co) (cn := cn) (i := 1) (v := max q.2.1 (mo_rd2 q.1 (Y 5 1) (X 7 t))) (Or.inr rfl)
    rw [show (1 : Int) + 14 = 15 from rfl, hD, hv, zU_2] at this
    exact this
  have dj : ∀ j, ¬ j = 119 → D j = μ j := fun j hj => by rw [← hD, zU_off j hj]
  have ds : ∀ i, ¬ i = 15 → D 119 i = μ 119 i := fun i hi => by rw [← hD, zU_ne (by omega)]
  have hW1 : y_W (vM D co cn) := by rw [vD]; exact mo_ok_w ok (by omega)
  have z51 : mo_Z1 q.1 (Y 5 1) q.2.1 (X 7 t) 5 1 = max q.2.1 (mo_rd2 q.1 (Y 5 1) (X 7 t)) := zU_eq
  have z2 : mo_Z1 q.1 (Y 5 1) q.2.1 (X 7 t) 2 = q.1 2 := zU_off 2 (by omega)
  have z13 : mo_Z1 q.1 (Y 5 1) q.2.1 (X 7 t) 13 = Y 13 := by rw [← e13]; exact zU_off 13 (by omega)
  have d6 : D 119 6 = Y 13 3 := by
    have : vM D co cn 13 3 = D 119 6 := by simp only [vM]; rfl
    rw [← this, vD, z13]
  have d130 : D 130 (X 7 t) = q.1 2 (X 7 t) := by
    have : vM D co cn 2 (X 7 t) = D 130 (X 7 t) := y_in (by rw [d6]; exact hX)
    rw [← this, vD, z2]
  have d15 : D 119 15 = max q.2.1 (mo_rd2 q.1 (Y 5 1) (X 7 t)) := by rw [← hD, zU_eq]
  have hkD : h_okn (D 141) (D 119 42) l (mo_Z1 q.1 (Y 5 1) q.2.1 (X 7 t)) B := by
    rw [dj 141 (by omega), ds 42 (by omega)]
    exact h_okn_up l hk (by omega)
  refine m_freeNow (co := co) (cn := cn) (by omega) hW1 (by rw [dj 138 (by omega), ds 28 (by omega)]; exact hR) (by rw [d6]; exact hX) (by rw [d130]; exact q3) (by rw [d15]; omega) (by rw [ds 42 (by omega)]; omega) (fun hf P hP hvP h43 h44 h45 p42 hpile hh => zb1 ?_) (fun hf P hP hvP p42 p141 => zb0 ?_)
  · rw [vD] at hf hvP h43 h44 h45 p42 hh
    obtain ⟨g1, g2, g3, g4⟩ := mo_go1 ok hb hX q3 (by omega) hf
    have pj : ∀ j, ¬ (j = 119 ∨ j = 123 ∨ j = 124 ∨ j = 130 ∨ j = 141) → P j = μ j := fun j hj => by rw [hP.1 j hj, dj j (by omega)]
    have p15 : P 119 15 = f_free (mo_Z1 q.1 (Y 5 1) q.2.1 (X 7 t)) (X 7 t) 5 1 := by
      have : vM P co cn 5 1 = P 119 15 := by simp [vM, y_cl]
      rw [← this, hvP]
    have st : mo_step X (Y 5 1) t q = (f_free (mo_Z1 q.1 (Y 5 1) q.2.1 (X 7 t)) (X 7 t), f_free (mo_Z1 q.1 (Y 5 1) q.2.1 (X 7 t)) (X 7 t) 5 1, q.2.2.1 + max 0 (f_free (mo_Z1 q.1 (Y 5 1) q.2.1 (X 7 t)) (X 7 t) 5 1 - X 4 t), mo_L q.2.2.2 t (max 0 (f_free (mo_Z1 q.1 (Y 5 1) q.2.1 (X 7 t)) (X 7 t) 5 1 - X 4 t)) (max 0 (q.2.1 - (X 4 t - f_om (mo_Z1 q.1 (Y 5 1) q.2.1 (X 7 t)) (X 7 t)))) (max 0 (mo_rd2 q.1 (Y 5 1) (X 7 t) - (X 4 t - f_om (mo_Z1 q.1 (Y 5 1) q.2.1 (X 7 t)) (X 7 t)))) (f_am (mo_Z1 q.1 (Y 5 1) q.2.1 (X 7 t)) (X 7 t))) := by
      unfold mo_step
      rw [if_neg q1, if_neg q2, if_neg q3, if_pos hf]
    rw [st] at h
    simp only [] at h
    have hml : (f_mv (mo_Z1 q.1 (Y 5 1) q.2.1 (X 7 t)) (X 7 t)).length ≤ 2 := by unfold f_mv; split <;> simp
    rw [h44, h45, p15, pj 132 (by omega), e132, zwi (x := f_free (mo_Z1 q.1 (Y 5 1) q.2.1 (X 7 t)) (X 7 t) 5 1 - X 4 t) (by omega) (by omega)]
    refine h _ (f_free (mo_Z1 q.1 (Y 5 1) q.2.1 (X 7 t)) (X 7 t) 5 1) (f_mv (mo_Z1 q.1 (Y 5 1) q.2.1 (X 7 t)) (X 7 t) ++ l) ?_ ?_ (by omega) trivial ?_ ?_ ?_ (by rw [List.length_append]; omega) ?_
    · refine (((zErt.u ?_ (by omega)).u (by omega)).u (by omega))
      exact ⟨fun j hj => pj j (by omega), fun i hi => by rw [hP.2 i hi, ds i (by omega)]⟩
    · rw [mUo (by omega), mUo (by omega), mUo (by omega), hvP, zU_same rfl]
    · unfold r_nt
      obtain ⟨m0, m1, m2, m3⟩ := mo_L_at (L := q.2.2.2) (t := t) (a := max 0 (f_free (mo_Z1 q.1 (Y 5 1) q.2.1 (X 7 t)) (X 7 t) 5 1 - X 4 t)) (b := max 0 (q.2.1 - (X 4 t - f_om (mo_Z1 q.1 (Y 5 1) q.2.1 (X 7 t)) (X 7 t)))) (c := max 0 (mo_rd2 q.1 (Y 5 1) (X 7 t) - (X 4 t - f_om (mo_Z1 q.1 (Y 5 1) q.2.1 (X 7 t)) (X 7 t)))) (d := f_am (mo_Z1 q.1 (Y 5 1) q.2.1 (X 7 t)) (X 7 t))
      rw [m0, m1, m2, m3, zU_eq, zU_off 162 (by omega), zU_off 162 (by omega), zU_off 162 (by omega), zU_off 163 (by omega), zU_off 163 (by omega), zU_off 163 (by omega), zU_off 164 (by omega), zU_off 164 (by omega), zU_eq, zU_off 166 (by omega), zU_off 166 (by omega), zU_off 166 (by omega), zU_off 165 (by omega), zU_eq, pj 162 (by omega), pj 163 (by omega), pj 166 (by omega), m162, m163, m166]
      refine ⟨rfl, fun _ => ⟨by omega, by omega, by omega, ?_, rfl, rfl⟩⟩
      rw [if_neg (by omega)]
    · exact ((r_ot.e (fun j hj => pj j (by omega))).u.u.u)
    · rw [zU_off 119 (by omega), zU_off 119 (by omega), zU_off 119 (by omega), p42, ds 42 (by omega), h42, List.length_append]
      omega
    · rw [zU_off 119 (by omega), zU_off 119 (by omega), zU_off 119 (by omega), zU_off 141 (by omega), zU_off 141 (by omega), zU_off 141 (by omega)]
      refine h_okn_app _ _ _ _ hh ?_
      have e : P 119 42 - 4 * ((f_mv (mo_Z1 q.1 (Y 5 1) q.2.1 (X 7 t)) (X 7 t)).length : Int) = D 119 42 := by rw [p42]; omega
      rw [e]
      exact h_okn_mono l _ _ _ (fun i hi => hpile i hi) hkD
  · rw [vD] at hf hvP
    have pj : ∀ j, ¬ (j = 119 ∨ j = 123 ∨ j = 124 ∨ j = 130 ∨ j = 141) → P j = μ j := fun j hj => by rw [hP.1 j hj, dj j (by omega)]
    have st : mo_step X (Y 5 1) t q = (q.1, q.2.1, q.2.2.1, zU q.2.2.2 0 t (-1)) := by
      unfold mo_step
      rw [if_neg q1, if_neg q2, if_neg q3, if_neg (by rw [hf]; simp)]
    rw [st] at h
    simp only [] at h
    refine h P (max q.2.1 (mo_rd2 q.1 (Y 5 1) (X 7 t))) l ⟨fun j hj => pj j (by omega), fun i hi => by rw [hP.2 i hi, ds i (by omega)]⟩ hvP (by omega) hq ?_ (r_ot.e (fun j hj => pj j (by omega))) (by rw [p42, ds 42 (by omega), h42]) (by omega) ?_
    · unfold r_nt
      rw [zU_eq, pj 160 (by omega), m160]
      exact ⟨rfl, fun hh => by omega⟩
    · rw [p141, p42, dj 141 (by omega), ds 42 (by omega)]
      exact hk
theorem m_goTrain (hd : 330 ≤ d) (hv : vM μ co cn = zU q.1 5 1 v) (ok : mo_ok Y q.1) (hq : q.1 5 1 = q.2.1) (hvb : q.2.1 ≤ v ∧ v ≤ 330000) (fb : Y 5 1 ≤ q.2.1 ∧ q.2.1 ≤ 325000) (hR : zRu (μ 138) (μ 119 28) co cn) (hb : 0 ≤ Y 5 1 ∧ Y 5 1 ≤ 320000) (ht : 0 ≤ t ∧ t < 8) (e135 : μ 135 t = X 7 t) (e132 : μ 132 t = X 4 t) (hX : 0 ≤ X 7 t ∧ X 7 t < Y 13 3) (h4 : 0 ≤ X 4 t ∧ X 4 t ≤ 2000) (h42 : μ 119 42 = 4 * l.length) (hl : l.length ≤ 20) (hk : h_okn (μ 141) (μ 119 42) l q.1 B)
    (h : ∀ (μ' : zM) (v' : Int) (l' : List (zM × Int × Int × Int)), zErt μ' μ → vM μ' co cn = zU (mo_step X (Y 5 1) t q).1 5 1 v' → ((mo_step X (Y 5 1) t q).2.1 ≤ v' ∧ v' ≤ 330000) → (mo_step X (Y 5 1) t q).1 5 1 = (mo_step X (Y 5 1) t q).2.1 → r_nt μ' (mo_step X (Y 5 1) t q).2.2.2 (X 4 t) t → r_ot μ' μ t → μ' 119 42 = 4 * l'.length → l'.length ≤ l.length + 2 → h_okn (μ' 141) (μ' 119 42) l' (mo_step X (Y 5 1) t q).1 B → K (some (.inl (mo_step X (Y 5 1) t q).2.1)) μ') : zCall g d 274 [.inr (.inr ((0, 12), 119)), .inl t, .inl (Y 5 1), .inl q.2.1] μ K := by
  have w := mo_ok_b ok
  have e13 : q.1 13 = Y 13 := ok.2.2 13 (by omega) (by omega)
  have he' : 0 ≤ X 7 t ∧ X 7 t < 12 := by rw [← e13] at hX; omega
  have rb := mo_rd2_b ok he'
  have q1 : ¬ X 7 t = -1 := by omega
  have oe := w.1 _ he'
  have ah := mo_ahead_r2 ok he'
  have hW : y_W (vM μ co cn) := by rw [hv]; exact mo_ok_w ok (by omega)
  have w6 := v_env hW
  have ah3 := mo_ahead_r hW (e := X 7 t) he'
  rw [hv, f_ahead_n, zU_off 13 (by omega), e13] at ah3
  have m6 : μ 119 6 = Y 13 3 := by
    have : vM μ co cn 13 3 = μ 119 6 := by simp only [vM]; rfl
    rw [← this, hv, zU_off 13 (by omega), e13]
  have f2 : ∀ e : Int, 0 ≤ e ∧ e < 12 ∧ e < μ 119 6 → μ 130 e = q.1 2 e ∧ μ 131 e = q.1 3 e ∧ μ 127 e = q.1 11 e ∧ μ 129 e = q.1 4 e := by
    intro e he
    have a1 : vM μ co cn 2 e = μ 130 e := y_in ⟨he.1, he.2.2⟩
    have a2 : vM μ co cn 3 e = μ 131 e := y_in ⟨he.1, he.2.2⟩
    have a3 : vM μ co cn 11 e = μ 127 e := y_in ⟨he.1, he.2.1⟩
    have a4 : vM μ co cn 4 e = μ 129 e := y_in ⟨he.1, he.2.1⟩
    rw [← a1, ← a2, ← a3, ← a4, hv, zU_off 2 (by omega), zU_off 3 (by omega), zU_off 11 (by omega), zU_off 4 (by omega)]
    exact ⟨rfl, rfl, rfl, rfl⟩
  obtain ⟨b1, b2, b3, b4⟩ := f2 (X 7 t) (by omega)
  refine sX12_goTrain ⟨by omega, by omega, ?_⟩
  rw [e135]
  refine m_ahead (co := co) (cn := cn) (by omega) (by omega) (by rw [b1]; omega) (zi ⟨by omega, ?_⟩)
  rw [hv, f_ahead_n, b1, b2, b3, zwi (x := q.1 3 (X 7 t) + q.1 11 (X 7 t)) (by omega) (by omega), show max (Y 5 1) (q.1 3 (X 7 t) + q.1 11 (X 7 t)) = mo_rd q.1 (Y 5 1) (X 7 t) from rfl]
  generalize hA : zU (zU μ 162 t q.2.1) 163 t (mo_rd q.1 (Y 5 1) (X 7 t)) = A
  have aj : ∀ j, ¬ (j = 162 ∨ j = 163) → A j = μ j := fun j hj => by rw [← hA, zU_off j (by omega), zU_off j (by omega)]
  have a162 : A 162 t = q.2.1 := by rw [← hA, zU_off 162 (by omega), zU_eq]
  have a163 : A 163 t = mo_rd q.1 (Y 5 1) (X 7 t) := by rw [← hA, zU_eq]
  have aot : r_ot A μ t := by rw [← hA]; exact (r_ot.refl μ t).u.u
  have aE : zErt A μ := by rw [← hA]; exact ((zErt.refl μ).u (by omega)).u (by omega)
  have vA : vM A co cn = zU q.1 5 1 v := by rw [← hA, mUo (by omega), mUo (by omega)]; exact hv
  have main : ∀ u : Int, u = (if q.1 2 (X 7 t) = -1 then 0 else 1) → zT g d mX12_goTrain K 69 [some (.inr (.inr ((0, 12), 119))), some (.inl t), none, some (.inl q.2.1), some (.inl (X 7 t)), some (.inl (f_ahead q.1 (X 7 t)))] [.inl u, .inl t, .inr (.inr ((2, 8), 166))] A := by
    intro u hu
    have u01 : u = 0 ∨ u = 1 := by rw [hu]; split <;> omega
    generalize hC : zU (zU (zU (zU A 166 t u) 164 t 0) 165 t 0) 160 t (-1) = C
    have cj : ∀ j, ¬ (j = 160 ∨ j = 164 ∨ j = 165 ∨ j = 166) → C j = A j := fun j hj => by rw [← hC, zU_off j (by omega), zU_off j (by omega), zU_off j (by omega), zU_off j (by omega)]
    have c160 : C 160 t = -1 := by rw [← hC, zU_eq]
    have c164 : C 164 t = 0 := by rw [← hC, zU_off 164 (by omega), zU_off 164 (by omega), zU_eq]
    have c165 : C 165 t = 0 := by rw [← hC, zU_off 165 (by omega), zU_eq]
    have c166 : C 166 t = u := by rw [← hC, zU_off 166 (by omega), zU_off 166 (by omega), zU_off 166 (by omega), zU_eq]
    have cot : r_ot C μ t := by rw [← hC]; exact aot.u.u.u.u
    have cE : zErt C μ := by rw [← hC]; exact (((aE.u (by omega)).u (by omega)).u (by omega)).u (by omega)
    have vC' : vM C co cn = zU q.1 5 1 v := by rw [← hC, mUo (by omega), mUo (by omega), mUo (by omega), mUo (by omega)]; exact vA
    have c42 : C 119 42 = μ 119 42 := by rw [cj 119 (by omega), aj 119 (by omega)]
    have c141 : C 141 = μ 141 := by rw [cj 141 (by omega), aj 141 (by omega)]
    have c132 : C 132 t = X 4 t := by rw [cj 132 (by omega), aj 132 (by omega)]; exact e132
    -- it can't go
    have no : mo_step X (Y 5 1) t q = (q.1, q.2.1, q.2.2.1, zU q.2.2.2 0 t (-1)) → K (some (.inl q.2.1)) C := by
      intro st
      rw [st] at h
      simp only [] at h
      refine h C v l cE vC' (by omega) hq ?_ cot (by rw [c42]; exact h42) (by omega) (by rw [c141, c42]; exact hk)
      unfold r_nt
      rw [zU_eq, c160]
      exact ⟨rfl, fun hh => by omega⟩
    -- it is on the road
    have road : ¬ q.1 4 (X 7 t) = 1 → q.1 2 (X 7 t) = -1 → K (some (.inl q.2.1)) (zU C 160 t (max 0 (zw (A 163 t - A 132 t)))) := by
      intro q2 q3
      have st : mo_step X (Y 5 1) t q = (q.1, q.2.1, q.2.2.1 + max 0 (mo_rd q.1 (Y 5 1) (X 7 t) - X 4 t), mo_L q.2.2.2 t (max 0 (mo_rd q.1 (Y 5 1) (X 7 t) - X 4 t)) 0 (max 0 (mo_rd q.1 (Y 5 1) (X 7 t) - X 4 t)) 0) := by
        unfold mo_step
        rw [if_neg q1, if_neg q2, if_pos q3]
      rw [st] at h
      simp only [] at h
      rw [a163, aj 132 (by omega), e132, zwi (x := mo_rd q.1 (Y 5 1) (X 7 t) - X 4 t) (by omega) (by omega)]
      refine h _ v l (cE.u (by omega)) (by rw [mUo (by omega)]; exact vC') (by omega) hq ?_ cot.u (by rw [zU_off 119 (by omega), c42]; exact h42) (by omega) (by rw [zU_off 141 (by omega), zU_off 119 (by omega), c141, c42]; exact hk)
      unfold r_nt
      obtain ⟨m0, m1, m2, m3⟩ := mo_L_at (L := q.2.2.2) (t := t) (a := max 0 (mo_rd q.1 (Y 5 1) (X 7 t) - X 4 t)) (b := 0) (c := max 0 (mo_rd q.1 (Y 5 1) (X 7 t) - X 4 t)) (d := 0)
      rw [m0, m1, m2, m3, zU_eq, zU_off 162 (by omega), zU_off 163 (by omega), zU_off 164 (by omega), zU_off 165 (by omega), zU_off 166 (by omega), c164, c165, c166, cj 162 (by omega), cj 163 (by omega), a162, a163]
      refine ⟨rfl, fun _ => ⟨by omega, by omega, by omega, ?_, by rw [show X 4 t - 0 = X 4 t from by omega], rfl⟩⟩
      rw [if_pos (by rw [hu, if_pos q3])]
    refine sX12_goTrain_69 ⟨by omega, u01, by omega, by omega, fun z1 => ?_, fun z1 => ⟨fun z2 => ⟨fun z3 => ?_, fun z3 => ⟨by omega, ?_⟩⟩, fun z2 => ⟨by omega, fun z3 => ?_, fun z3 => ⟨fun z4 => ⟨fun z5 => ⟨by omega, ?_⟩, fun z5 => ⟨by omega, ?_⟩⟩, fun z4 => ?_⟩⟩⟩⟩
    · rw [hC]
      rw [aj 129 (by omega), b4] at z1
      refine no ?_
      unfold mo_step
      rw [if_neg q1, if_pos (by omega)]
    · rw [hC]
      rw [zU_eq] at z3
      have q3 : ¬ q.1 2 (X 7 t) = -1 := fun hh => z3 (by rw [hu, if_pos hh])
      rw [aj 129 (by omega), b4] at z1
      have er : mo_rd2 q.1 (Y 5 1) (X 7 t) = mo_rd q.1 (Y 5 1) (X 7 t) := if_pos z2
      refine m_go200 (Y := Y) (B := B) (by omega) vC' ok hq fb (by rw [cj 138 (by omega), aj 138 (by omega), cj 119 (by omega), aj 119 (by omega)]; exact hR) hb ht c132 hX h4 (by rw [c42]; exact h42) hl (by rw [c141, c42]; exact hk) (by omega) q3 c160 (by rw [cj 162 (by omega)]; exact a162) (by rw [cj 163 (by omega), a163, er]) (by rw [c166, hu, if_neg q3]) (fun M' v' l' k1 k2 k3 k4 k5 k6 k7 k8 k9 => h M' v' l' (k1.trans cE) k2 k3 k4 k5 (k6.trans cot) k7 k8 k9)
    · rw [hC]
      rw [zU_eq] at z3
      rw [aj 129 (by omega), b4] at z1
      exact road (by omega) (by
        by_cases q3 : q.1 2 (X 7 t) = -1
        · exact q3
        · rw [hu, if_neg q3] at z3; omega)
    · rw [hC]
      have ab := f_ahead_b ok.1 (e := X 7 t) he' (by rw [f_ahead_n]; exact z2)
      have q3 : ¬ q.1 2 (X 7 t) = -1 := by have := ab.2.2.1; rw [zU_off 2 (by omega)] at this; exact this
      have bf := f2 (f_ahead q.1 (X 7 t)) (by omega)
      rw [aj 129 (by omega), b4] at z1
      rw [aj 129 (by omega), bf.2.2.2] at z3
      refine no ?_
      unfold mo_step
      have ff : f_frees (mo_Z1 q.1 (Y 5 1) q.2.1 (X 7 t)) (X 7 t) = false := by
        unfold f_frees
        have e1 : f_ahead (mo_Z1 q.1 (Y 5 1) q.2.1 (X 7 t)) (X 7 t) = f_ahead q.1 (X 7 t) := f_ahead_n
        have e2 : f_may (mo_Z1 q.1 (Y 5 1) q.2.1 (X 7 t)) (f_ahead q.1 (X 7 t)) (mo_Z1 q.1 (Y 5 1) q.2.1 (X 7 t) 5 1) = false := by
          unfold f_may
          have : mo_Z1 q.1 (Y 5 1) q.2.1 (X 7 t) 4 = q.1 4 := zU_off 4 (by omega)
          rw [this, decide_eq_false z3, Bool.and_false]
        rw [e1, e2, decide_eq_false z2]
        simp
      rw [if_neg q1, if_neg (by omega), if_neg q3, if_neg (by rw [ff]; simp)]
    · rw [hC]
      have ab := f_ahead_b ok.1 (e := X 7 t) he' (by rw [f_ahead_n]; exact z2)
      have q3 : ¬ q.1 2 (X 7 t) = -1 := by have := ab.2.2.1; rw [zU_off 2 (by omega)] at this; exact this
      have bf := f2 (f_ahead q.1 (X 7 t)) (by omega)
      have ofr := w.1 (f_ahead q.1 (X 7 t)) (by omega)
      rw [aj 129 (by omega), b4] at z1
      rw [aj 131 (by omega), aj 127 (by omega), bf.2.1, bf.2.2.1, a163, zwi (x := q.1 3 (f_ahead q.1 (X 7 t)) + q.1 11 (f_ahead q.1 (X 7 t))) (by omega) (by omega)]
      have er : mo_rd2 q.1 (Y 5 1) (X 7 t) = max (mo_rd q.1 (Y 5 1) (X 7 t)) (q.1 3 (f_ahead q.1 (X 7 t)) + q.1 11 (f_ahead q.1 (X 7 t))) := if_neg z2
      rw [← er]
      refine m_go200 (Y := Y) (B := B) (by omega) (by rw [mUo (by omega)]; exact vC') ok hq fb (by rw [zU_off 138 (by omega), zU_off 119 (by omega), cj 138 (by omega), aj 138 (by omega), cj 119 (by omega), aj 119 (by omega)]; exact hR) hb ht (by rw [zU_off 132 (by omega)]; exact c132) hX h4 (by rw [zU_off 119 (by omega), c42]; exact h42) hl (by rw [zU_off 141 (by omega), zU_off 119 (by omega), c141, c42]; exact hk) (by omega) q3 (by rw [zU_off 160 (by omega)]; exact c160) (by rw [zU_off 162 (by omega), cj 162 (by omega)]; exact a162) zU_eq (by rw [zU_off 166 (by omega), c166, hu, if_neg q3]) (fun M' v' l' k1 k2 k3 k4 k5 k6 k7 k8 k9 => h M' v' l' (k1.trans (cE.u (by omega))) k2 k3 k4 k5 (k6.trans cot.u) k7 k8 k9)
    · have ab := f_ahead_b ok.1 (e := X 7 t) he' (by rw [f_ahead_n]; exact z2)
      have q3 : ¬ q.1 2 (X 7 t) = -1 := by have := ab.2.2.1; rw [zU_off 2 (by omega)] at this; exact this
      rw [zU_eq, hu, if_neg q3] at z5
      omega
    · rw [hC]
      have ab := f_ahead_b ok.1 (e := X 7 t) he' (by rw [f_ahead_n]; exact z2)
      have q3 : ¬ q.1 2 (X 7 t) = -1 := by have := ab.2.2.1; rw [zU_off 2 (by omega)] at this; exact this
      have bf := f2 (f_ahead q.1 (X 7 t)) (by omega)
      rw [aj 129 (by omega), b4] at z1
      rw [aj 131 (by omega), bf.2.1] at z4
      refine no ?_
      unfold mo_step
      have ff : f_frees (mo_Z1 q.1 (Y 5 1) q.2.1 (X 7 t)) (X 7 t) = false := by
        unfold f_frees
        have e1 : f_ahead (mo_Z1 q.1 (Y 5 1) q.2.1 (X 7 t)) (X 7 t) = f_ahead q.1 (X 7 t) := f_ahead_n
        have e2 : f_may (mo_Z1 q.1 (Y 5 1) q.2.1 (X 7 t)) (f_ahead q.1 (X 7 t)) (mo_Z1 q.1 (Y 5 1) q.2.1 (X 7 t) 5 1) = false := by
          unfold f_may f_steam
          have : mo_Z1 q.1 (Y 5 1) q.2.1 (X 7 t) 3 = q.1 3 := zU_off 3 (by omega)
          rw [this, decide_eq_false (fun hh => hh.1 z4), Bool.false_and]
        rw [e1, e2, decide_eq_false z2]
        simp
      rw [if_neg q1, if_neg (by omega), if_neg q3, if_neg (by rw [ff]; simp)]
  exact ⟨fun qr => main 0 (by rw [if_pos qr]), fun qr => main 1 (by rw [if_neg qr])⟩
end
