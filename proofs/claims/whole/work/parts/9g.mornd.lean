-- needs 9f
/-! the morning: the class goes through all trains -/
theorem mo_step_L {X : zM} {b t i : Int} {q : zMo} {k : Nat} (h : ¬ i = t) : (mo_step X b t q).2.2.2 k i = q.2.2.2 k i := by
  have two : ∀ a b' c d' : Int, mo_L q.2.2.2 t a b' c d' k i = q.2.2.2 k i := fun a b' c d' => by
    unfold mo_L
    rw [zU_ne (by omega), zU_ne (by omega), zU_ne (by omega), zU_ne (by omega)]
  unfold mo_step
  split
  · exact zU_ne (by omega)
  · split
    · exact zU_ne (by omega)
    · split
      · exact two _ _ _ _
      · split
        · exact two _ _ _ _
        · exact zU_ne (by omega)
theorem mo_L_at {L : zM} {t a b c d : Int} : mo_L L t a b c d 0 t = a ∧ mo_L L t a b c d 1 t = b ∧ mo_L L t a b c d 2 t = c ∧ mo_L L t a b c d 3 t = d := by
  unfold mo_L
  refine ⟨?_, ?_, ?_, ?_⟩
  · rw [zU_off 0 (by omega), zU_off 0 (by omega), zU_off 0 (by omega), zU_eq]
  · rw [zU_off 1 (by omega), zU_off 1 (by omega), zU_eq]
  · rw [zU_off 2 (by omega), zU_eq]
  · rw [zU_eq]
/-- what the class has noted of a train -/
def c_nt (N L : zM) (t : Int) : Prop := N 98 t = L 0 t ∧ (0 ≤ L 0 t → N 99 t = L 1 t ∧ N 100 t = L 2 t ∧ N 101 t = L 3 t)
theorem vC_off {A B : zM} {s : Nat} (hs : 20 ≤ s) (hr : zrl A) (h : ∀ j, ((1 ≤ j ∧ j ≤ 9) ∨ (j = 12 ∨ j = 14 ∨ j = 15) ∨ (s ≤ j ∧ j ≤ s + 4)) → B j = A j) : vC B s = vC A s := by
  funext k i
  match k with
  | 0 => simp only [vC]; rw [h (s + 1) (by omega)]
  | 1 => simp only [vC]; rw [h (s + 2) (by omega)]
  | 2 => simp only [vC]; rw [h (s + 3) (by omega)]
  | 3 => simp only [vC]; rw [h (s + 4) (by omega)]
  | 4 => simp only [vC]; rw [h s (by omega)]
  | 5 => simp only [vC]; rw [h s (by omega)]
  | 6 => simp only [vC]; rw [h 2 (by omega)]
  | 7 => simp only [vC]; rw [h 3 (by omega)]
  | 8 => simp only [vC]; rw [h 4 (by omega)]
  | 9 => simp only [vC]; rw [h 6 (by omega)]
  | 10 => simp only [vC]; rw [h 7 (by omega)]
  | 11 => simp only [vC]; rw [h 8 (by omega)]
  | 12 => simp only [vC]; rw [h 9 (by omega)]
  | 13 => simp only [vC]; rw [h 5 (by omega), h 1 (by omega)]
  | 14 =>
    simp only [vC]
    rw [h 12 (by omega)]
    rcases hr with hA | hA <;> rw [hA]
    · rw [show ((14 : Int)).toNat = 14 from rfl, h 14 (by omega)]
    · rw [show ((15 : Int)).toNat = 15 from rfl, h 15 (by omega)]
  | 15 => simp only [vC]; rw [h 12 (by omega)]
  | k + 16 => simp only [vC]
section
variable {g : zG} {d : Nat} {K : Option zV → zM → Prop} {μ Y X : zM}
theorem c_goThrough (hd : 8 ≤ d) (hr : zrl μ) (hv : vC μ 20 = Y) (hW : y_W Y) (hR : y_R Y) (hb : Y 5 1 ≤ 320000) (hN : cN μ X) (hi : iN Y X)
    (h : ∀ μ', zE92 μ' μ → (∀ t : Int, 0 ≤ t ∧ t < X 8 0 → c_nt μ' (mo_all Y X).2.2.2 t) → K (some (.inl (mo_all Y X).2.2.1)) μ') : zCall g d 22 [.inr (.inr ((0, 2), 92))] μ K := by
  obtain ⟨n1, n2, n3, n4⟩ := hN
  obtain ⟨i1, i2, i3, i4⟩ := hi
  obtain ⟨n, en⟩ : ∃ n : Nat, X 8 0 = (n : Int) := ⟨(X 8 0).toNat, by omega⟩
  have hn8 : n ≤ 8 := by omega
  rw [en] at n1 n2 n4
  have w := hW.1
  have w5 := hW.2.1
  have hX : ∀ t : Nat, t < n → X 7 (t : Int) = -1 ∨ (0 ≤ X 7 (t : Int) ∧ X 7 (t : Int) < Y 13 3) := fun t ht => by have := (i2 (t : Int) (by omega)).2; omega
  have hX4 : ∀ t : Nat, t < n → 0 ≤ X 4 (t : Int) ∧ X 4 (t : Int) ≤ 2000 := fun t ht => by have := (i2 (t : Int) (by omega)).1; omega
  have lp := mo_lit_p (X := X) hW n 0 Y ⟨hW, fun _ _ => rfl⟩ (fun t ht => hX t (by omega))
  have eall : mo_all Y X = mo_go X (Y 5 1) n n 0 (z_lp (mo_lt X (Y 5 1)) n 0 Y, Y 5 1, 0, fun _ _ => 0) := by
    unfold mo_all mo_lit
    rw [en, show ((n : Int)).toNat = n from by omega]
  -- all trains, in the order of their minutes
  have loop : ∀ (k i done : Nat) (q : zMo) (N : zM) (v : Int), i + k = n → zE92 N μ → vC N 93 = zU q.1 5 1 v → (Y 5 1 ≤ v ∧ v ≤ 330000) → N 92 9 = q.2.1 → mo_b Y (i : Int) q → (∀ o, o < n → (done.testBit o = true ↔ ∃ j : Nat, j < i ∧ μ 83 (j : Int) = (o : Int))) → (∀ j : Nat, j < i → c_nt N q.2.2.2 (μ 83 (j : Int))) → mo_all Y X = mo_go X (Y 5 1) n k done q → zT g d mX2_goThrough K 30 [some (.inr (.inr ((0, 2), 92))), some (.inl q.2.2.1), some (.inl (i : Int)), none, none] [] N := by
    intro k
    induction k with
    | zero =>
      intro i done q N v hik hE hvN hvb h9 hB hdone hnt hall
      have hall : mo_all Y X = q := hall
      refine sX2_goThrough_30 ⟨fun _ => ?_, fun x => ?_⟩
      · rw [hall] at h
        refine h N hE (fun t ht => ?_)
        obtain ⟨j, hj, e⟩ := n4.2.2 t (by omega)
        have := hnt j.toNat (by omega)
        rw [show ((j.toNat : Nat) : Int) = j from by omega, e] at this
        exact this
      · rw [hE 78 (by omega), n1] at x
        omega
    | succ k ih =>
      intro i done q N v hik hE hvN hvb h9 hB hdone hnt hall
      have hik' : i < n := by omega
      have ft := n4.1 (i : Int) (by omega)
      obtain ⟨t, et⟩ : ∃ t : Nat, μ 83 (i : Int) = (t : Int) := ⟨(μ 83 (i : Int)).toNat, by omega⟩
      have tn : t < n := by omega
      have pick : mo_pick X n done = (t : Int) := by rw [mo_turn n4 hik' hdone, et]
      have hall2 : mo_all Y X = mo_go X (Y 5 1) n k (done ||| 2 ^ t) (mo_step X (Y 5 1) (t : Int) q) := by
        rw [hall]
        show mo_go X (Y 5 1) n k (done ||| 2 ^ (mo_pick X n done).toNat) (mo_step X (Y 5 1) (mo_pick X n done) q) = _
        rw [pick, show ((t : Int)).toNat = t from by omega]
      have e83 : N 83 = μ 83 := hE 83 (by omega)
      have e82 : N 82 (t : Int) = X 7 (t : Int) := by rw [hE 82 (by omega)]; exact n3 _ (by omega)
      have e79 : N 79 (t : Int) = X 4 (t : Int) := by rw [hE 79 (by omega)]; exact (n2 _ (by omega)).1
      have hXt := hX t tn
      have hX4t := hX4 t tn
      obtain ⟨ok, fb, sb1, sb2⟩ := hB
      have hok := mo_ok_b ok
      have e13 : q.1 13 = Y 13 := ok.2.2 13 (by omega) (by omega)
      have rN : zrl N := zrl_same hr (hE 12 (by omega))
      have inj : ∀ j : Nat, j < i → ¬ μ 83 (j : Int) = (t : Int) := by
        intro j hj e
        have := n4.2.1 (j : Int) (i : Int) (by omega) (by omega) (by omega)
        rw [e, et] at this
        omega
      have next : ∀ (N' : zM) (v' x' : Int), zE92 N' μ → vC N' 93 = zU (mo_step X (Y 5 1) (t : Int) q).1 5 1 v' → (Y 5 1 ≤ v' ∧ v' ≤ 330000) → N' 92 9 = (mo_step X (Y 5 1) (t : Int) q).2.1 → c_nt N' (mo_step X (Y 5 1) (t : Int) q).2.2.2 (t : Int) → (∀ x : Int, ¬ x = (t : Int) → N' 98 x = N 98 x ∧ N' 99 x = N 99 x ∧ N' 100 x = N 100 x ∧ N' 101 x = N 101 x) → x' = (mo_step X (Y 5 1) (t : Int) q).2.2.1 → zT g d mX2_goThrough K 30 [some (.inr (.inr ((0, 2), 92))), some (.inl x'), some (.inl (zw ((i : Int) + 1))), none, none] [] N' := by
        intro N' v' x' k1 k2 k3 k4 k5 k6 k7
        rw [zw_suc (by omega), k7]
        refine ih (i + 1) (done ||| 2 ^ t) _ N' v' (by omega) k1 k2 k3 k4 ?_ (fun o ho => ?_) (fun j hj => ?_) hall2
        · have := mo_step_b (X := X) (t := (t : Int)) ⟨ok, fb, sb1, sb2⟩ (by omega) (by omega) hXt hX4t.1
          rw [show (((i + 1 : Nat)) : Int) = (i : Int) + 1 from by omega]
          exact this
        · rw [or_test, Bool.or_eq_true, hdone o ho, decide_eq_true_eq]
          constructor
          · rintro (⟨j, hj, e⟩ | e)
            · exact ⟨j, by omega, e⟩
            · exact ⟨i, by omega, by rw [et, e]⟩
          · rintro ⟨j, hj, e⟩
            rcases Nat.lt_or_ge j i with q9 | q9
            · exact Or.inl ⟨j, q9, e⟩
            · obtain rfl : j = i := by omega
              exact Or.inr (by omega)
        · rcases Nat.lt_or_ge j i with q9 | q9
          · have old := hnt j q9
            have ne := inj j q9
            have kk := k6 _ ne
            unfold c_nt at *
            rw [mo_step_L ne, mo_step_L ne, mo_step_L ne, mo_step_L ne, kk.1, kk.2.1, kk.2.2.1, kk.2.2.2]
            exact old
          · obtain rfl : j = i := by omega
            rw [et]
            exact k5
      have zv : ∀ N', (∀ j, ¬ (98 ≤ j ∧ j ≤ 101) → N' j = N j) → vC N' 93 = zU q.1 5 1 v := fun N' hN' => by rw [← hvN]; exact vC_off (by omega) rN (fun j hj => hN' j (by omega))
      refine sX2_goThrough_30 ⟨fun x => ?_, fun _ => ⟨by omega, ?_⟩⟩
      · rw [hE 78 (by omega), n1] at x
        omega
      rw [e83, et, e82]
      refine ⟨by omega, fun q1 => ⟨by omega, ?_⟩, fun q1 => ⟨by omega, ?_⟩⟩
      · have he : 0 ≤ X 7 (t : Int) ∧ X 7 (t : Int) < Y 13 3 := by omega
        have he' : 0 ≤ X 7 (t : Int) ∧ X 7 (t : Int) < 12 := by rw [← e13] at he; omega
        have oe := hok.1 _ he'
        have hWN : y_W (vC N 93) := by rw [hvN]; exact mo_ok_w ok (by omega)
        have we := w_en (s := 93) hWN he'
        have wv := w_env (s := 93) hWN
        have z4 : q.1 4 (X 7 (t : Int)) = zand (zshr (N 93 2) (X 7 (t : Int))) 1 := by
          have : vC N 93 4 (X 7 (t : Int)) = zand (zshr (N 93 2) (X 7 (t : Int))) 1 := y_in (f := fun e => zand (zshr (N 93 2) e) 1) he'
          rw [← this, hvN, zU_off 4 (by omega)]
        have z2 : q.1 2 (X 7 (t : Int)) = N 96 (X 7 (t : Int)) := by
          have : vC N 93 2 (X 7 (t : Int)) = N 96 (X 7 (t : Int)) := y_in he'
          rw [← this, hvN, zU_off 2 (by omega)]
        have z3 : ∀ e : Int, 0 ≤ e ∧ e < 12 → N 97 e + N 8 e = q.1 3 e + q.1 11 e := by
          intro e he
          have a1 : vC N 93 3 e = N 97 e := y_in he
          have a2 : vC N 93 11 e = N 8 e := y_in he
          rw [← a1, ← a2, hvN, zU_off 3 (by omega), zU_off 11 (by omega)]
        have n20 : N 20 1 = Y 5 1 := by
          have : vC μ 20 5 1 = μ 20 1 := by simp [vC, y_cl]
          rw [hE 20 (by omega), ← this, hv]
        have rb := mo_rd2_b ok he'
        refine c_isDead (s := 93) (fun qd => zb1 ?_) (fun qd => zb0 (c_onRoad (s := 93) he' (fun qr => zb1 ?_) (fun qr => zb0 ?_)))
        · have st : mo_step X (Y 5 1) (t : Int) q = (q.1, q.2.1, q.2.2.1, zU q.2.2.2 0 (t : Int) (-1)) := by
            unfold mo_step
            rw [if_neg q1, if_pos (by rw [z4] at oe ⊢; omega)]
          refine next _ v _ (fun j hj => by rw [zU_off j (by omega)]; exact hE j hj) (by rw [st]; exact zv _ (fun j hj => zU_off j (by omega))) hvb (by rw [st, zU_off 92 (by omega)]; exact h9) ?_ (fun x hx => ?_) ?_
          · rw [st]
            unfold c_nt
            simp only []
            rw [zU_eq, zU_eq]
            exact ⟨rfl, fun hh => by omega⟩
          · rw [zU_ne (by omega), zU_off 99 (by omega), zU_off 100 (by omega), zU_off 101 (by omega)]
            exact ⟨rfl, rfl, rfl, rfl⟩
          · rw [st, zU_eq, show max (0 : Int) (-1) = 0 from by omega, zwi (x := q.2.2.1 + 0) (by omega) (by omega)]
            simp only []
            omega
        · have qr' : q.1 2 (X 7 (t : Int)) = -1 := by rw [z2]; exact qr
          obtain ⟨A, hA⟩ : ∃ A, max 0 (mo_rd q.1 (Y 5 1) (X 7 (t : Int)) - X 4 (t : Int)) = A := ⟨_, rfl⟩
          have Ab : 0 ≤ A ∧ A ≤ 330000 := by omega
          have st : mo_step X (Y 5 1) (t : Int) q = (q.1, q.2.1, q.2.2.1 + A, mo_L q.2.2.2 (t : Int) A 0 A 0) := by
            unfold mo_step
            rw [if_neg q1, if_neg (by rw [z4, qd]; omega), if_pos qr', hA]
          refine sX2_waitOnRoad ⟨by omega, c_inSteamFrom (s := 93) hWN he' (zi ⟨by omega, zi ?_⟩)⟩
          show zT g d mX2_goThrough K 30 [some (.inr (.inr ((0, 2), 92))), some (.inl (zw (q.2.2.1 + (max 0 ((zU (zU (zU (zU N 99 (t : Int) 0) 100 (t : Int) (max 0 (zw ((max (N 20 1) (N 97 (X 7 (t : Int)) + N 8 (X 7 (t : Int)))) - (N 79 (t : Int)))))) 101 (t : Int) 0) 98 (t : Int) (max 0 (zw ((max (N 20 1) (N 97 (X 7 (t : Int)) + N 8 (X 7 (t : Int)))) - (N 79 (t : Int)))))) 98 (t : Int)))))), some (.inl (zw ((i : Int) + 1))), none, none] [] (zU (zU (zU (zU N 99 (t : Int) 0) 100 (t : Int) (max 0 (zw ((max (N 20 1) (N 97 (X 7 (t : Int)) + N 8 (X 7 (t : Int)))) - (N 79 (t : Int)))))) 101 (t : Int) 0) 98 (t : Int) (max 0 (zw ((max (N 20 1) (N 97 (X 7 (t : Int)) + N 8 (X 7 (t : Int)))) - (N 79 (t : Int))))))
          have eA : max 0 (zw ((max (N 20 1) (N 97 (X 7 (t : Int)) + N 8 (X 7 (t : Int)))) - (N 79 (t : Int)))) = A := by
            have : max (Y 5 1) (q.1 3 (X 7 (t : Int)) + q.1 11 (X 7 (t : Int))) = mo_rd q.1 (Y 5 1) (X 7 (t : Int)) := rfl
            rw [n20, z3 _ he', e79, this, zwi (x := mo_rd q.1 (Y 5 1) (X 7 (t : Int)) - X 4 (t : Int)) (by omega) (by omega)]
            exact hA
          rw [eA]
          refine next _ v _ (fun j hj => by rw [zU_off j (by omega), zU_off j (by omega), zU_off j (by omega), zU_off j (by omega)]; exact hE j hj) (by rw [st]; exact zv _ (fun j hj => by rw [zU_off j (by omega), zU_off j (by omega), zU_off j (by omega), zU_off j (by omega)])) hvb (by rw [st, zU_off 92 (by omega), zU_off 92 (by omega), zU_off 92 (by omega), zU_off 92 (by omega)]; exact h9) ?_ (fun x hx => ?_) ?_
          · rw [st]
            unfold c_nt
            simp only []
            obtain ⟨m0, m1, m2, m3⟩ := mo_L_at (L := q.2.2.2) (t := (t : Int)) (a := A) (b := 0) (c := A) (d := 0)
            rw [m0, m1, m2, m3]
            refine ⟨zU_eq, fun _ => ⟨?_, ?_, ?_⟩⟩
            · rw [zU_off 99 (by omega), zU_off 99 (by omega), zU_off 99 (by omega), zU_eq]
            · rw [zU_off 100 (by omega), zU_off 100 (by omega), zU_eq]
            · rw [zU_off 101 (by omega), zU_eq]
          · refine ⟨?_, ?_, ?_, ?_⟩
            · rw [zU_ne (by omega), zU_off 98 (by omega), zU_off 98 (by omega), zU_off 98 (by omega)]
            · rw [zU_off 99 (by omega), zU_off 99 (by omega), zU_off 99 (by omega), zU_ne (by omega)]
            · rw [zU_off 100 (by omega), zU_off 100 (by omega), zU_ne (by omega), zU_off 100 (by omega)]
            · rw [zU_off 101 (by omega), zU_ne (by omega), zU_off 101 (by omega), zU_off 101 (by omega)]
          · rw [st, zU_eq, show max (0 : Int) A = A from by omega, zwi (x := q.2.2.1 + A) (by omega) (by omega)]
        · have qr' : ¬ q.1 2 (X 7 (t : Int)) = -1 := by rw [z2]; exact qr
          have ah := mo_ahead_r2 ok he'
          have fin : zT g (d - 1) mX2_comeFromStall (zIi fun r6 μ5 => zT g d mX2_goThrough K 30 [some (.inr (.inr ((0, 2), 92))), some (.inl (zw (q.2.2.1 + (max 0 ((zU μ5 98 (t : Int) r6) 98 (t : Int)))))), some (.inl (zw ((i : Int) + 1))), none, none] [] (zU μ5 98 (t : Int) r6)) 57 [some (.inr (.inr ((0, 2), 92))), some (.inl (t : Int)), some (.inl (X 7 (t : Int))), none, some (.inl (mo_rd2 q.1 (Y 5 1) (X 7 (t : Int)))), none] [] N := by
            refine c_come57 (X := X) (by omega) rN hvN ok (by omega) he qr' (by omega) h9 (by omega) e79 hX4t (fun hf P hP hvP p9 po p99 p100 p101 => zi ?_) (fun hf P hP hvP p9 po => zi ?_)
            · obtain ⟨g1, g2, g3, g4⟩ := mo_go1 ok (by omega) he qr' (by omega) hf
              obtain ⟨A, hA⟩ : ∃ A, max 0 (f_free (mo_Z1 q.1 (Y 5 1) q.2.1 (X 7 (t : Int))) (X 7 (t : Int)) 5 1 - X 4 (t : Int)) = A := ⟨_, rfl⟩
              have Ab : 0 ≤ A ∧ A ≤ 330000 := by omega
              have st : mo_step X (Y 5 1) (t : Int) q = (f_free (mo_Z1 q.1 (Y 5 1) q.2.1 (X 7 (t : Int))) (X 7 (t : Int)), f_free (mo_Z1 q.1 (Y 5 1) q.2.1 (X 7 (t : Int))) (X 7 (t : Int)) 5 1, q.2.2.1 + A, mo_L q.2.2.2 (t : Int) A (max 0 (q.2.1 - (X 4 (t : Int) - f_om (mo_Z1 q.1 (Y 5 1) q.2.1 (X 7 (t : Int))) (X 7 (t : Int))))) (max 0 (mo_rd2 q.1 (Y 5 1) (X 7 (t : Int)) - (X 4 (t : Int) - f_om (mo_Z1 q.1 (Y 5 1) q.2.1 (X 7 (t : Int))) (X 7 (t : Int))))) (f_am (mo_Z1 q.1 (Y 5 1) q.2.1 (X 7 (t : Int))) (X 7 (t : Int)))) := by
                unfold mo_step
                rw [if_neg q1, if_neg (by rw [z4, qd]; omega), if_neg qr', if_pos hf, hA]
              rw [hA]
              have rP : zrl P := zrl_same rN (hP 12 (by omega))
              refine next _ (f_free (mo_Z1 q.1 (Y 5 1) q.2.1 (X 7 (t : Int))) (X 7 (t : Int)) 5 1) _ (fun j hj => by rw [zU_off j (by omega), hP j (by omega)]; exact hE j hj) ?_ (by omega) (by rw [st, zU_off 92 (by omega)]; exact p9) ?_ (fun x hx => ?_) ?_
              · rw [st]
                simp only []
                rw [zU_same rfl, ← hvP]
                exact vC_off (by omega) rP (fun j hj => zU_off j (by omega))
              · rw [st]
                unfold c_nt
                simp only []
                obtain ⟨m0, m1, m2, m3⟩ := mo_L_at (L := q.2.2.2) (t := (t : Int)) (a := A) (b := max 0 (q.2.1 - (X 4 (t : Int) - f_om (mo_Z1 q.1 (Y 5 1) q.2.1 (X 7 (t : Int))) (X 7 (t : Int))))) (c := max 0 (mo_rd2 q.1 (Y 5 1) (X 7 (t : Int)) - (X 4 (t : Int) - f_om (mo_Z1 q.1 (Y 5 1) q.2.1 (X 7 (t : Int))) (X 7 (t : Int))))) (d := f_am (mo_Z1 q.1 (Y 5 1) q.2.1 (X 7 (t : Int))) (X 7 (t : Int)))
                rw [m0, m1, m2, m3]
                refine ⟨zU_eq, fun _ => ⟨?_, ?_, ?_⟩⟩
                · rw [zU_off 99 (by omega)]; exact p99
                · rw [zU_off 100 (by omega)]; exact p100
                · rw [zU_off 101 (by omega)]; exact p101
              · have := po x hx
                refine ⟨by rw [zU_ne (by omega), hP 98 (by omega)], ?_, ?_, ?_⟩
                · rw [zU_off 99 (by omega)]; exact this.1
                · rw [zU_off 100 (by omega)]; exact this.2.1
                · rw [zU_off 101 (by omega)]; exact this.2.2
              · rw [st, zU_eq, show max (0 : Int) A = A from by omega, zwi (x := q.2.2.1 + A) (by omega) (by omega)]
            · have st : mo_step X (Y 5 1) (t : Int) q = (q.1, q.2.1, q.2.2.1, zU q.2.2.2 0 (t : Int) (-1)) := by
                unfold mo_step
                rw [if_neg q1, if_neg (by rw [z4, qd]; omega), if_neg qr', if_neg (by rw [hf]; simp)]
              have rP : zrl P := zrl_same rN (hP 12 (by omega))
              refine next _ (max q.2.1 (mo_rd2 q.1 (Y 5 1) (X 7 (t : Int)))) _ (fun j hj => by rw [zU_off j (by omega), hP j (by omega)]; exact hE j hj) ?_ (by omega) (by rw [st, zU_off 92 (by omega)]; exact p9) ?_ (fun x hx => ?_) ?_
              · rw [st]
                simp only []
                have : vC P 93 = zU q.1 5 1 (max q.2.1 (mo_rd2 q.1 (Y 5 1) (X 7 (t : Int)))) := hvP
                rw [← this]
                exact vC_off (by omega) rP (fun j hj => zU_off j (by omega))
              · rw [st]
                unfold c_nt
                simp only []
                rw [zU_eq, zU_eq]
                exact ⟨rfl, fun hh => by omega⟩
              · rw [zU_ne (by omega), zU_off 99 (by omega), zU_off 100 (by omega), zU_off 101 (by omega), hP 98 (by omega), po 99 (by omega) (by omega), po 100 (by omega) (by omega), po 101 (by omega) (by omega)]
                exact ⟨rfl, rfl, rfl, rfl⟩
              · rw [st, zU_eq, show max (0 : Int) (-1) = 0 from by omega, zwi (x := q.2.2.1 + 0) (by omega) (by omega)]
                simp only []
                omega
          refine sX2_comeFromStall ⟨by omega, c_inFrontOf (s := 93) (by omega) he' (by omega) (zi (c_inSteamFrom (s := 93) hWN he' (zi ⟨fun qa => ?_, fun qa => ?_⟩)))⟩
          · rw [hvN, f_ahead_n] at qa
            have e2 : mo_rd2 q.1 (Y 5 1) (X 7 (t : Int)) = max (N 20 1) (N 97 (X 7 (t : Int)) + N 8 (X 7 (t : Int))) := by
              unfold mo_rd2
              rw [if_pos qa, n20, z3 _ he']
              rfl
            rw [e2] at fin
            exact fin
          · rw [hvN, f_ahead_n] at qa ⊢
            refine c_inSteamFrom (s := 93) hWN (by omega) (zi ?_)
            have e2 : mo_rd2 q.1 (Y 5 1) (X 7 (t : Int)) = max (max (N 20 1) (N 97 (X 7 (t : Int)) + N 8 (X 7 (t : Int)))) (N 97 (f_ahead q.1 (X 7 (t : Int))) + N 8 (f_ahead q.1 (X 7 (t : Int)))) := by
              unfold mo_rd2
              rw [if_neg qa, n20, z3 _ he', z3 _ (by omega)]
              rfl
            rw [e2] at fin
            exact fin
      · have st : mo_step X (Y 5 1) (t : Int) q = (q.1, q.2.1, q.2.2.1, zU q.2.2.2 0 (t : Int) (-2)) := if_pos q1
        refine next _ v _ (fun j hj => by rw [zU_off j (by omega)]; exact hE j hj) (by rw [st]; exact zv _ (fun j hj => zU_off j (by omega))) hvb (by rw [st, zU_off 92 (by omega)]; exact h9) ?_ (fun x hx => ?_) ?_
        · rw [st]
          unfold c_nt
          simp only []
          rw [zU_eq, zU_eq]
          exact ⟨rfl, fun hh => by omega⟩
        · rw [zU_ne (by omega), zU_off 99 (by omega), zU_off 100 (by omega), zU_off 101 (by omega)]
          exact ⟨rfl, rfl, rfl, rfl⟩
        · rw [st, zU_eq, show max (0 : Int) (-2) = 0 from by omega, zwi (x := q.2.2.1 + 0) (by omega) (by omega)]
          simp only []
          omega
  refine sX2_goThrough ⟨by omega, c_takeFrom (s := 93) (o := 20) (by omega) (by omega) (by omega) (by omega) hr (fun M hM hvM => zn ?_)⟩
  rw [hv] at hvM
  have rM : zrl M := zrl_same hr (hM 12 (by omega))
  refine c_lightAll (Y := Y) (X := X) (n := n) (by omega) rM hvM ⟨hW, fun _ _ => rfl⟩ (by rw [hM 78 (by omega)]; exact n1) hn8 (fun i hi => by rw [hM 82 (by omega)]; exact n3 i hi) hX (fun P hP hvP => zn ?_)
  have p20 : P 20 1 = Y 5 1 := by
    have : vC μ 20 5 1 = μ 20 1 := by simp [vC, y_cl]
    rw [hP 20 (by omega), hM 20 (by omega), ← this, hv]
  rw [p20]
  have rP : zrl P := zrl_same rM (hP 12 (by omega))
  refine loop n 0 0 (z_lp (mo_lt X (Y 5 1)) n 0 Y, Y 5 1, 0, fun _ _ => 0) _ (Y 5 1) (by omega) (fun j hj => by rw [zU_off j (by omega), hP j (by omega), hM j (by omega)]) ?_ (by omega) zU_eq ⟨⟨?_, ?_, fun k hk _ => lp.2 k (by omega)⟩, by simp only []; omega, by simp only []; omega⟩ (fun o ho => ⟨fun hh => by simp at hh, fun ⟨j, hj, _⟩ => by omega⟩) (fun j hj => by omega) eall
  · simp only []
    rw [show zU (z_lp (mo_lt X (Y 5 1)) n 0 Y) 5 1 (Y 5 1) = z_lp (mo_lt X (Y 5 1)) n 0 Y from zU_same (by rw [lp.2 5 (by omega)]), ← hvP]
    exact vC_off (by omega) rP (fun j hj => zU_off j (by omega))
  · simp only []
    rw [show zU (z_lp (mo_lt X (Y 5 1)) n 0 Y) 5 1 (Y 5 1) = z_lp (mo_lt X (Y 5 1)) n 0 Y from zU_same (by rw [lp.2 5 (by omega)])]
    exact lp.1
  · simp only []
    unfold y_R at *
    rw [lp.2 15 (by omega), lp.2 14 (by omega)]
    exact hR
end
