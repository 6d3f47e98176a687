-- needs 20.walks 30 34 35
/-! the yard's questions and moves, as numbers -/
/-- the letters for one that would stand there -/
def f_lets (Y : zM) (x e : Int) (b : Bool) (k : Int) : Int := if k = 0 then Y 9 e else if k = 1 then Y 10 e else if k = 2 then Y 12 e else if k = 3 then Y 4 e else if k = 4 then zB (f_steam Y e (Y 5 1)) else if k = 5 then x else if k = 6 then zB b else zB (f_hood Y x b)
def f_let (Y : zM) (x e : Int) (b : Bool) : Bool := decide (Y 15 0 = 0) || decide (¬ r_val (f_lets Y x e b) (Y 14) (Y 15 0).toNat = 0)
def f_takes (Y : zM) (x e : Int) : Bool := decide (Y 8 x = 0) && (decide (Y 1 x = -1) && (decide (f_len Y x + Y 9 e ≤ Y 6 x) && f_let Y x e (decide (Y 0 x = -1))))
def f_stand (Y : zM) (e p : Int) : Bool := decide (p = Y 13 0) || f_takes Y p e
def f_can (Y : zM) (e p : Int) : Bool := decide (¬ p = f_point Y e) && (decide (f_ahead Y e = -1) && f_stand Y e p)
def f_out (Y : zM) (e : Int) : zM := if Y 2 e = -1 then Y else zU (if Y 0 (Y 2 e) = e then zU Y 0 (Y 2 e) (-1) else zU Y 1 (Y 2 e) (-1)) 2 e (-1)
def f_in (Y : zM) (e p : Int) : zM := if p = Y 13 0 then Y else zU (if Y 0 p = -1 then zU Y 0 p e else zU Y 1 p e) 2 e p
def f_put (Y : zM) (e p : Int) : zM := f_in (f_out Y e) e p
def f_bring (Y : zM) (e p t : Int) : zM := zU (zU (f_put Y e p) 5 0 p) 5 1 (Y 5 1 + t)
/-- the rule is right -/
def y_R (Y : zM) : Prop := Y 15 0 = 0 ∨ ∃ n : Nat, Y 15 0 = (n : Int) ∧ r_ok (Y 14) n
theorem zrl_U {μ : zM} {j : Nat} {i v : Int} (h : zrl μ) (hj : ¬ j = 12) : zrl (zU μ j i v) := by
  unfold zrl at *
  rw [zU_ne (by omega)]
  exact h
theorem zrl_same {μ μ' : zM} (h : zrl μ) (e : μ' 12 = μ 12) : zrl μ' := by
  unfold zrl at *
  rw [e]
  exact h
section
variable {Y : zM} {e p x : Int}
theorem f_out_13 : f_out Y e 13 = Y 13 := by
  unfold f_out
  split
  · rfl
  · split <;> (funext i; simp [zU])
theorem f_put_13 : f_put Y e p 13 = Y 13 := by
  unfold f_put f_in
  split
  · exact f_out_13
  · split <;> (funext i; rw [zU_ne (by omega), zU_ne (by omega), f_out_13])
/-- the parts that no move changes -/
theorem f_out_k {k : Nat} (h : 3 ≤ k) : f_out Y e k = Y k := by
  unfold f_out
  split
  · rfl
  · split <;> (funext i; rw [zU_ne (by omega), zU_ne (by omega)])
theorem f_in_k {k : Nat} (h : 3 ≤ k) : f_in Y e p k = Y k := by
  unfold f_in
  split
  · rfl
  · split <;> (funext i; rw [zU_ne (by omega), zU_ne (by omega)])
theorem f_put_k {k : Nat} (h : 3 ≤ k) : f_put Y e p k = Y k := by
  unfold f_put
  rw [f_in_k h, f_out_k h]
theorem f_bring_k {k : Nat} {t : Int} (h : 3 ≤ k) (h5 : ¬ k = 5) : f_bring Y e p t k = Y k := by
  unfold f_bring
  funext i
  rw [zU_ne (by omega), zU_ne (by omega), f_put_k h]
end
section
variable {g : zG} {d : Nat} {K : Option zV → zM → Prop} {μ : zM} {s o : Nat} {e a b x y : Int}
theorem c_bring (hs : 20 ≤ s) (hr : zrl μ) (hW : y_W (vC μ s)) (he : 0 ≤ e ∧ e < 12) (hx : x = -1 ∨ (0 ≤ x ∧ x < μ 1 0)) (h : ∀ μ', (∀ j, ¬ (s + 1 ≤ j ∧ j ≤ s + 3) → μ' j = μ j) → vC μ' s = f_put (vC μ s) e (if x = -1 then μ 1 0 else x) → K none μ') : zCall g d 64 [.inr (.inr ((0, 7), s)), .inl e, .inl x] μ K := by
  have w1 := w_env hW
  have w2 := w_en hW he
  have e1 : vC μ s 2 e = μ (s + 3) e := y_in he
  have e13 : vC μ s 13 0 = μ 1 0 := by simp [vC, y_cl]
  have e13' : ∀ Y : zM, Y 13 = vC μ s 13 → Y 13 0 = μ 1 0 := fun Y h => by rw [h, e13]
  have e0 : ∀ p, 0 ≤ p ∧ p < 23 → vC μ s 0 p = μ (s + 1) p := fun p hp => y_in hp
  refine sX7_bring ⟨he, fun q1 => ⟨fun q2 => ?_, fun q2 => ⟨by omega, fun q3 => ?_, fun q3 => ?_⟩⟩, fun q1 => ⟨by omega, fun q3 => ⟨fun q2 => ?_, fun q2 => ⟨by omega, fun q4 => ?_, fun q4 => ?_⟩⟩, fun q3 => ⟨fun q2 => ?_, fun q2 => ⟨by omega, fun q4 => ?_, fun q4 => ?_⟩⟩⟩⟩
  · refine h _ (fun j hj => zU_off j (by omega)) ?_
    rw [vU3 hr hs he, if_pos q2]
    unfold f_put f_in f_out
    rw [e1, if_pos q1, if_pos e13.symm]
    funext k i
    by_cases hk : k = 2 ∧ i = e
    · obtain ⟨rfl, rfl⟩ := hk
      rw [zU_eq, e1, q1, q2]
    · rw [zU_ne hk]
  · refine h _ (fun j hj => by rw [zU_off j (by omega), zU_off j (by omega)]) ?_
    rw [zU_ne (by omega), ← e0 x (by omega)] at q3
    rw [vU2 (zrl_U hr (by omega)) hs (by omega), vU3 hr hs he, if_neg q2]
    unfold f_put f_in f_out
    rw [e1, if_pos q1, e13, if_neg (by omega), if_neg q3]
    funext k i
    simp only [zU]
    (repeat' split) <;> first | rfl | omega
  · refine h _ (fun j hj => by rw [zU_off j (by omega), zU_off j (by omega)]) ?_
    rw [zU_ne (by omega), ← e0 x (by omega)] at q3
    rw [vU1 (zrl_U hr (by omega)) hs (by omega), vU3 hr hs he, if_neg q2]
    unfold f_put f_in f_out
    rw [e1, if_pos q1, e13, if_neg (by omega), if_pos q3]
    funext k i
    simp only [zU]
    (repeat' split) <;> first | rfl | omega
  · refine h _ (fun j hj => by rw [zU_off j (by omega), zU_off j (by omega)]) ?_
    rw [vU3 (zrl_U hr (by omega)) hs he, vU2 hr hs (by omega), if_pos q2]
    unfold f_put f_in f_out
    rw [e1, if_neg q1, e0 _ (by omega), if_neg q3]
    rw [if_pos (by rw [zU_ne (by omega), zU_ne (by omega), e13]), q2]
  · refine h _ (fun j hj => by rw [zU_off j (by omega), zU_off j (by omega), zU_off j (by omega)]) ?_
    rw [zU_ne (by omega), zU_ne (by omega), ← e0 x (by omega)] at q4
    rw [vU2 (zrl_U (zrl_U hr (by omega)) (by omega)) hs (by omega), vU3 (zrl_U hr (by omega)) hs he, vU2 hr hs (by omega), if_neg q2]
    unfold f_put f_in f_out
    rw [e1, if_neg q1, e0 _ (by omega), if_neg q3]
    rw [if_neg (by rw [zU_ne (by omega), zU_ne (by omega), e13]; omega), if_neg (by rw [zU_ne (by omega), zU_ne (by omega)]; exact q4)]
    funext k i
    simp only [zU]
    (repeat' split) <;> first | rfl | omega
  · refine h _ (fun j hj => by rw [zU_off j (by omega), zU_off j (by omega), zU_off j (by omega)]) ?_
    rw [zU_ne (by omega), zU_ne (by omega), ← e0 x (by omega)] at q4
    rw [vU1 (zrl_U (zrl_U hr (by omega)) (by omega)) hs (by omega), vU3 (zrl_U hr (by omega)) hs he, vU2 hr hs (by omega), if_neg q2]
    unfold f_put f_in f_out
    rw [e1, if_neg q1, e0 _ (by omega), if_neg q3]
    rw [if_neg (by rw [zU_ne (by omega), zU_ne (by omega), e13]; omega), if_pos (by rw [zU_ne (by omega), zU_ne (by omega)]; exact q4)]
    funext k i
    simp only [zU]
    (repeat' split) <;> first | rfl | omega
  · refine h _ (fun j hj => by rw [zU_off j (by omega), zU_off j (by omega)]) ?_
    rw [vU3 (zrl_U hr (by omega)) hs he, vU1 hr hs (by omega), if_pos q2]
    unfold f_put f_in f_out
    rw [e1, if_neg q1, e0 _ (by omega), if_pos q3]
    rw [if_pos (by rw [zU_ne (by omega), zU_ne (by omega), e13]), q2]
  · refine h _ (fun j hj => by rw [zU_off j (by omega), zU_off j (by omega), zU_off j (by omega)]) ?_
    rw [zU_ne (by omega)] at q4
    have q5 : ¬ zU (vC μ s) 0 (μ (s + 3) e) (-1) 0 x = -1 := by
      by_cases hh : x = μ (s + 3) e
      · subst hh; rw [zU_eq] at q4; exact absurd rfl q4
      · rw [zU_ne (by omega)] at q4 ⊢; rw [e0 x (by omega)]; exact q4
    rw [vU2 (zrl_U (zrl_U hr (by omega)) (by omega)) hs (by omega), vU3 (zrl_U hr (by omega)) hs he, vU1 hr hs (by omega), if_neg q2]
    unfold f_put f_in f_out
    rw [e1, if_neg q1, e0 _ (by omega), if_pos q3]
    rw [if_neg (by rw [zU_ne (by omega), zU_ne (by omega), e13]; omega), if_neg (by rw [zU_ne (by omega)]; exact q5)]
    funext k i
    simp only [zU]
    (repeat' split) <;> first | rfl | omega
  · refine h _ (fun j hj => by rw [zU_off j (by omega), zU_off j (by omega), zU_off j (by omega)]) ?_
    rw [zU_ne (by omega)] at q4
    have q5 : zU (vC μ s) 0 (μ (s + 3) e) (-1) 0 x = -1 := by
      by_cases hh : x = μ (s + 3) e
      · subst hh; rw [zU_eq]
      · rw [zU_ne (by omega)] at q4 ⊢; rw [e0 x (by omega)]; exact q4
    rw [vU1 (zrl_U (zrl_U hr (by omega)) (by omega)) hs (by omega), vU3 (zrl_U hr (by omega)) hs he, vU1 hr hs (by omega), if_neg q2]
    unfold f_put f_in f_out
    rw [e1, if_neg q1, e0 _ (by omega), if_pos q3]
    rw [if_neg (by rw [zU_ne (by omega), zU_ne (by omega), e13]; omega), if_pos (by rw [zU_ne (by omega)]; exact q5)]
    funext k i
    simp only [zU]
    (repeat' split) <;> first | rfl | omega
end
