-- needs 67
/-! the reference begins fires; operations fires, men -/
section
variable {g : zG} {d : Nat} {K : Option zV → zM → Prop} {μ μ' Y X N : zM} {s m i n k j : Nat} {r : List Int} {S : zS} {co : Int → Int} {cn nn x y z b v e p t f st w : Int} {q : zFr}
def fr_out (x : Int) : Int := if x = 1000000000 then -5000 else x
theorem fr_go_0 : fr_go Y X n k w 0 q = q := rfl
theorem fr_go_z (h : q.1 = 0) : fr_go Y X n k w (j + 1) q = q := if_pos h
theorem fr_go_s (h : ¬ q.1 = 0) : fr_go Y X n k w (j + 1) q = fr_go Y X n k w j (fr_step Y X n k w q) := if_neg h
theorem fr_go_le : ∀ (j : Nat) (q : zFr), (fr_go Y X n k w j q).2.2.2 ≤ q.2.2.2
  | 0, q => Int.le_refl _
  | j + 1, q => by
    simp only [fr_go]
    split
    · exact Int.le_refl _
    · have := fr_go_le j (fr_step Y X n k w q)
      have h2 : (fr_step Y X n k w q).2.2.2 ≤ q.2.2.2 := Int.min_le_left _ _
      omega
theorem fr_fin (hW : y_W Y) (hi : iN Y X) (hw : 1 ≤ w ∧ w ≤ 120) : fr_out (fr_res Y X k w).2.2.2 = fr_ans Y X k w := by
  have i8 := hi.1
  unfold fr_ans fr_res fr_out
  obtain ⟨n, hn⟩ : ∃ n : Nat, X 8 0 = (n : Int) := ⟨(X 8 0).toNat, by omega⟩
  rw [show (X 8 0).toNat = n from by omega]
  by_cases q3 : fr_D Y X n = 0
  · have : fr_go Y X n k w n (fr_q0 Y X n) = fr_q0 Y X n := by
      cases n with
      | zero => rfl
      | succ j =>
        simp only [fr_go]
        rw [if_pos (show (fr_q0 Y X (j + 1)).1 = 0 from q3)]
    rw [this, if_pos q3, if_pos (show (fr_q0 Y X n).2.2.2 = 1000000000 from rfl)]
  · rw [if_neg q3, if_neg]
    intro h
    cases n with
    | zero => exact q3 rfl
    | succ j =>
      simp only [fr_go] at h
      rw [if_neg (show ¬ (fr_q0 Y X (j + 1)).1 = 0 from q3)] at h
      have h1 := fr_go_le (Y := Y) (X := X) (n := j + 1) (k := k) (w := w) j (fr_step Y X (j + 1) k w (fr_q0 Y X (j + 1)))
      have hs := fr_sub_D (Y := Y) (X := X) (by omega)
      rw [show (X 8 0).toNat = j + 1 from by omega] at hs
      have st := fr_ok_step (Y := Y) (X := X) (n := j + 1) (k := k) (j := j) (w := w) (q := fr_q0 Y X (j + 1)) (by omega) (by omega) hw (fun t ht hbt => fr_end_b hW hi (by omega) (by have := fr_np hs hbt; rw [show ((t.toNat : Nat) : Int) = t from by omega] at this; exact this)) q3 (fr_ok_0 (by omega))
      have tp := fr_np hs st.2.2
      have tb := st.2.1
      have h2 : (fr_step Y X (j + 1) k w (fr_q0 Y X (j + 1))).2.2.2 ≤ fr_end Y X (fr_l Y X (fr_q0 Y X (j + 1)).1 (j + 1)) - w := by
        show min _ (min _ _ - w) ≤ _
        omega
      generalize fr_l Y X (fr_q0 Y X (j + 1)).1 (j + 1) = T at *
      rw [show ((T.toNat : Nat) : Int) = T from by omega] at tp
      have eb := fr_end_b hW hi (t := T) (by omega) tp
      omega
theorem m_lightFires (hd : 3 ≤ d) (hC : mS μ S) (hI : iS nn S) (hw : 1 ≤ w ∧ w ≤ 120) (hk : 1 ≤ k ∧ k ≤ 6) (h : ∀ μ', (∀ j, ¬ (j = 158 ∨ j = 159) → μ' j = μ j) → (∀ t, 0 ≤ t ∧ t < zX S 8 0 → μ' 158 t = (fr_res S.1 (zX S) k w).2.2.1 t) → K (some (.inl (fr_ans S.1 (zX S) k w))) μ') : zCall g d 266 [.inr (.inr ((0, 12), 119)), .inl w, .inl (k : Int)] μ K := by
  have we := hI.env
  have hi : iN S.1 (zX S) := hI.2.2.2.2.2.2.1
  have i8 := hi.1
  have hNμ : mN μ (zX S) := hC.2.2.2.2.2.1
  rw [← fr_fin hI.W hi hw] at h
  obtain ⟨n, hn⟩ : ∃ n : Nat, zX S 8 0 = (n : Int) := ⟨(zX S 8 0).toNat, by omega⟩
  have hn2 : (zX S 8 0).toNat = n := by omega
  have hcs : ∀ M : zM, (∀ j, ¬ (j = 158 ∨ j = 159) → M j = μ j) → mS M S := fun M hM => hC.scr (fun j hj _ => hM j (by unfold z_scm at hj; omega)) (fun i _ => by rw [hM 119 (by omega)])
  have main : ∀ (a : Nat) (q : zFr) (E : Nat) (M : zM), a ≤ n → fr_ok n a q → fr_sub S.1 (zX S) q.1 → fr_c q.1 n ≤ a → E < 256 → (∀ i : Nat, i < n → q.1.testBit i = (fr_nd S.1 (zX S) i && !E.testBit i)) → (∀ j, ¬ (j = 158 ∨ j = 159) → M j = μ j) → (∀ t, 0 ≤ t ∧ t < zX S 8 0 → M 158 t = q.2.2.1 t) → (∀ m, 0 ≤ m ∧ m < (k : Int) → M 159 m = q.2.1 m) → (∀ μ', (∀ j, ¬ (j = 158 ∨ j = 159) → μ' j = μ j) → (∀ t, 0 ≤ t ∧ t < zX S 8 0 → μ' 158 t = (fr_go S.1 (zX S) n k w a q).2.2.1 t) → K (some (.inl (fr_out (fr_go S.1 (zX S) n k w a q).2.2.2))) μ') → zT g d mX12_lightFires K 52 [some (.inr (.inr ((0, 12), 119))), some (.inl w), some (.inl (k : Int)), some (.inl (E : Int)), some (.inl q.2.2.2), none, none, none] [] M := by
    intro a
    induction a with
    | zero =>
      intro q E M ha ho hs hc hE hDE hM hb hf hK
      have hCM := hcs M hM
      have hNM : mN M (zX S) := hCM.2.2.2.2.2.1
      have n1 := hNM.1
      have z0 := fr_c_0 q.1 n (by omega)
      refine sX12_lightFires_52 ?_
      have lp : ∀ (c j : Nat), j + c = n → zT g d mX12_lightFires K 58 [some (.inr (.inr ((0, 12), 119))), some (.inl w), some (.inl (k : Int)), some (.inl (E : Int)), some (.inl q.2.2.2), some (.inl (-1)), some (.inl (j : Int)), none] [] M := by
        intro c
        induction c with
        | zero =>
          intro j hj
          refine sX12_lightFires_58 ⟨fun _ => ⟨fun q2 => absurd rfl q2, fun _ => ⟨fun q3 => ?_, fun q3 => ?_⟩⟩, fun q2 => by omega⟩
          · have := hK M hM hb
            rw [fr_go_0] at this
            unfold fr_out at this
            rw [if_neg q3] at this
            exact this
          · have := hK M hM hb
            rw [fr_go_0] at this
            unfold fr_out at this
            rw [if_pos q3] at this
            exact this
        | succ c ih =>
          intro j hj
          have e7 := (hNM.2 (j : Int) (by omega)).2.2.2
          have i7 := (hi.2.1 (j : Int) (by omega)).2
          have nx := ih (j + 1) (by omega)
          have zj := hDE j (by omega)
          rw [z0 j (by omega)] at zj
          have tb := z_tst (m := E) (e := (j : Int)) (by omega) (by omega)
          rw [show ((j : Int)).toNat = j from by omega] at tb
          refine sX12_lightFires_58 ⟨fun q2 => by omega, fun q2 => ⟨by omega, ?_⟩⟩
          rw [e7]
          refine ⟨fun q3 => by rw [zw_suc (by omega)]; exact nx, fun q3 => ⟨by omega, fun q4 => by rw [zw_suc (by omega)]; exact nx, fun q4 => ⟨fun q5 => ?_, fun q5 => by rw [zw_suc (by omega)]; exact nx⟩⟩⟩
          exfalso
          rw [(hCM.en (by omega)).2.1] at q4
          have : fr_nd S.1 (zX S) j = true := by simp [fr_nd, q3, q4]
          rw [this] at zj
          rw [tb] at q5
          cases hb2 : E.testBit j
          · rw [hb2] at zj; cases zj
          · rw [hb2] at q5; exact q5 rfl
      exact lp n 0 (by omega)
    | succ a ih =>
      intro q E M ha ho hs hc hE hDE hM hb hf hK
      have hCM := hcs M hM
      have hNM : mN M (zX S) := hCM.2.2.2.2.2.1
      have n1 := hNM.1
      have hvM := hCM.1.1
      have WM := hCM.W hI
      refine sX12_lightFires_52 ?_
      -- the latest
      obtain ⟨F, hF⟩ : ∃ F, fr_l S.1 (zX S) q.1 = F := ⟨_, rfl⟩
      have F0 : F 0 = -1 := by rw [← hF]; rfl
      have Fs : ∀ t : Nat, F (t + 1) = if q.1.testBit t = true then (if F t = -1 ∨ fr_end S.1 (zX S) (F t) ≤ fr_end S.1 (zX S) (t : Int) then (t : Int) else F t) else F t := by intro t; rw [← hF]; rfl
      have Fb : ∀ t : Nat, (F t = -1 ∧ ∀ i, i < t → q.1.testBit i = false) ∨ (0 ≤ F t ∧ F t < (t : Int) ∧ q.1.testBit (F t).toNat = true) := by
        intro t
        rw [← hF]
        exact fr_l_b S.1 (zX S) q.1 t
      have fin : zT g d mX12_lightFires K 58 [some (.inr (.inr ((0, 12), 119))), some (.inl w), some (.inl (k : Int)), some (.inl (E : Int)), some (.inl q.2.2.2), some (.inl (F n)), some (.inl (n : Int)), none] [] M := by
        by_cases hD : q.1 = 0
        · have fn : F n = -1 := by
            rcases Fb n with ⟨a1, _⟩ | ⟨_, _, a1⟩
            · exact a1
            · rw [hD, Nat.zero_testBit] at a1; cases a1
          rw [fr_go_z hD] at hK
          unfold fr_out at hK
          rw [fn]
          refine sX12_lightFires_58 ⟨fun _ => ⟨fun q2 => absurd rfl q2, fun _ => ⟨fun q3 => ?_, fun q3 => ?_⟩⟩, fun q2 => by omega⟩
          · have := hK M hM hb
            rw [if_neg q3] at this
            exact this
          · have := hK M hM hb
            rw [if_pos q3] at this
            exact this
        · rw [fr_go_s hD] at hK
          have st := fr_ok_step (Y := S.1) (X := zX S) (n := n) (k := k) (j := a) (w := w) (q := q) (by omega) (by omega) hw (fun t ht hbt => fr_end_b hI.W hi (by omega) (by have := fr_np hs hbt; rw [show ((t.toNat : Nat) : Int) = t from by omega] at this; exact this)) hD ho
          obtain ⟨G, hG⟩ : ∃ G, fr_w q.2.1 = G := ⟨_, rfl⟩
          have Gs : ∀ j : Nat, G (j + 1) = if q.2.1 (G j) < q.2.1 ((j + 1 : Nat) : Int) then ((j + 1 : Nat) : Int) else G j := by intro j; rw [← hG]; rfl
          have Gb : ∀ j : Nat, 0 ≤ G j ∧ G j ≤ (j : Int) := by intro j; rw [← hG]; exact fr_w_b _ j
          have G0 : G 0 = 0 := by rw [← hG]; rfl
          have stp : fr_step S.1 (zX S) n k w q = (fr_clr q.1 (F n), (fun m => if m = G (k - 1) then min (fr_end S.1 (zX S) (F n)) (q.2.1 (G (k - 1))) - w else q.2.1 m), (fun t => if t = F n then min (fr_end S.1 (zX S) (F n)) (q.2.1 (G (k - 1))) - w else q.2.2.1 t), min q.2.2.2 (min (fr_end S.1 (zX S) (F n)) (q.2.1 (G (k - 1))) - w)) := by
            unfold fr_step
            rw [hF, hG]
          rw [hF] at st
          obtain ⟨T, hT⟩ : ∃ T : Nat, F n = (T : Int) := ⟨(F n).toNat, by omega⟩
          rw [hT, show ((T : Int)).toNat = T from by omega] at st
          rw [hT] at stp ⊢
          have tp : ¬ zX S 7 (T : Int) = -1 := fr_np hs st.2.2
          have eb := fr_end_b hI.W hi (t := (T : Int)) (by omega) tp
          have f3 := ho.2.2 (G (k - 1))
          have lt2 : 2 ^ T < 256 := Nat.pow_lt_pow_right (a := 2) (n := 8) (by omega) (by omega)
          have ez : zor (E : Int) (zshl 1 (T : Int)) = ((E ||| 2 ^ T : Nat) : Int) := by rw [zshl_all T (by omega), zor_nat (by omega) (by omega)]
          have hE' : E ||| 2 ^ T < 256 := Nat.or_lt_two_pow (n := 8) hE lt2
          have hc' : fr_c (fr_clr q.1 (T : Int)) n ≤ a := by
            have := fr_c_clr q.1 T n (by omega)
            rw [if_pos ⟨by omega, st.2.2⟩] at this
            omega
          have wl : ∀ (c j : Nat), j + c = k → 1 ≤ j → zT g d mX12_lightFires K 174 [some (.inr (.inr ((0, 12), 119))), some (.inl w), some (.inl (k : Int)), some (.inl ((E ||| 2 ^ T : Nat) : Int)), some (.inl q.2.2.2), some (.inl (T : Int)), some (.inl (G (j - 1))), some (.inl (j : Int))] [] M := by
            clear hF hG
            intro c
            induction c with
            | zero =>
              intro j hj h1
              obtain rfl : j = k := by omega
              have fbj := Gb (j - 1)
              refine sX12_lightFires_174 ⟨fun _ => ⟨by omega, m_endOf (co := S.1 14) (cn := S.1 15 0) WM hNM (by rw [hvM]; exact hi) (by omega) tp (zi ⟨by omega, by omega, ?_⟩)⟩, fun q5 => by omega⟩
              rw [hvM, zU_eq, hf _ (by omega), zwi (x := min (fr_end S.1 (zX S) (T : Int)) (q.2.1 (G (j - 1))) - w) (by omega) (by omega)]
              have nx := ih (fr_step S.1 (zX S) n j w q) (E ||| 2 ^ T) (zU (zU M 158 (T : Int) (min (fr_end S.1 (zX S) (T : Int)) (q.2.1 (G (j - 1))) - w)) 159 (G (j - 1)) (min (fr_end S.1 (zX S) (T : Int)) (q.2.1 (G (j - 1))) - w)) (by omega) st.1 (by rw [stp]; exact fr_sub_clr hs) (by rw [stp]; exact hc') hE' (fun i hi2 => ?_) (fun q hq => by rw [zU_off q (by omega), zU_off q (by omega), hM q hq]) (fun t ht => ?_) (fun m hm => ?_) hK
              · rw [stp] at nx
                exact nx
              · rw [stp]
                show (fr_clr q.1 (T : Int)).testBit i = _
                rw [fr_clr_t, hDE i hi2, Nat.testBit_or, Nat.testBit_two_pow, decide_eq_true (show i < 8 by omega)]
                by_cases q6 : i = T
                · subst q6; simp
                · have : ¬ T = i := fun hh => q6 hh.symm
                  have h9 : ¬ (i : Int) = (T : Int) := by omega
                  simp [this, h9]
              · rw [stp, zU_off 158 (by omega)]
                show _ = if t = (T : Int) then _ else _
                by_cases q6 : t = (T : Int)
                · subst q6; rw [zU_eq, if_pos rfl]
                · rw [zU_ne (by omega), if_neg q6]; exact hb t ht
              · rw [stp]
                show _ = if m = G (j - 1) then _ else _
                by_cases q6 : m = G (j - 1)
                · rw [if_pos q6, q6, zU_eq]
                · rw [zU_ne (by omega), if_neg q6, zU_off 159 (by omega)]; exact hf m hm
            | succ c ihc =>
              intro j hj h1
              have fbj := Gb (j - 1)
              have nx := ihc (j + 1) (by omega) (by omega)
              rw [show j + 1 - 1 = (j - 1) + 1 from by omega, Gs (j - 1), show j - 1 + 1 = j from by omega] at nx
              refine sX12_lightFires_174 ⟨fun q5 => by omega, fun q5 => ⟨by omega, by omega, ?_⟩⟩
              rw [hf _ (by omega), hf _ (by omega)]
              refine ⟨fun q6 => ?_, fun q6 => ?_⟩
              · rw [if_neg (by omega)] at nx
                rw [zw_suc (by omega)]; exact nx
              · rw [if_pos q6] at nx
                rw [zw_suc (by omega)]; exact nx
          refine sX12_lightFires_58 ⟨fun _ => ⟨fun q2 => ?_, fun q2 => by omega⟩, fun q2 => by omega⟩
          rw [ez]
          have := wl (k - 1) 1 (by omega) (by omega)
          rw [show (1 : Nat) - 1 = 0 from rfl, G0] at this
          exact this
      have lp : ∀ (c j : Nat), j + c = n → zT g d mX12_lightFires K 58 [some (.inr (.inr ((0, 12), 119))), some (.inl w), some (.inl (k : Int)), some (.inl (E : Int)), some (.inl q.2.2.2), some (.inl (F j)), some (.inl (j : Int)), none] [] M := by
        clear hF
        intro c
        induction c with
        | zero =>
          intro j hj
          obtain rfl : j = n := by omega
          exact fin
        | succ c ihc =>
          intro j hj
          have e7 := (hNM.2 (j : Int) (by omega)).2.2.2
          have i7 := (hi.2.1 (j : Int) (by omega)).2
          have nx := ihc (j + 1) (by omega)
          rw [Fs j] at nx
          have zj := hDE j (by omega)
          have tb := z_tst (m := E) (e := (j : Int)) (by omega) (by omega)
          rw [show ((j : Int)).toNat = j from by omega] at tb
          have fbj := Fb j
          refine sX12_lightFires_58 ⟨fun q2 => by omega, fun q2 => ⟨by omega, ?_⟩⟩
          rw [e7]
          refine ⟨fun q3 => ?_, fun q3 => ⟨by omega, fun q4 => ?_, fun q4 => ⟨fun q5 => ?_, fun q5 => ?_⟩⟩⟩
          · rw [if_neg (by rw [zj]; simp [fr_nd, q3])] at nx
            rw [zw_suc (by omega)]; exact nx
          · rw [(hCM.en (by omega)).2.1] at q4
            rw [if_neg (by rw [zj]; simp [fr_nd, q4])] at nx
            rw [zw_suc (by omega)]; exact nx
          · rw [(hCM.en (by omega)).2.1] at q4
            have hEj : E.testBit j = false := by
              cases hb2 : E.testBit j
              · rfl
              · rw [tb, hb2] at q5; exact absurd rfl q5
            rw [if_pos (by rw [zj, hEj]; simp [fr_nd, q3, q4])] at nx
            refine ⟨fun q6 => ?_, fun q6 => ⟨by omega, m_endOf (co := S.1 14) (cn := S.1 15 0) WM hNM (by rw [hvM]; exact hi) (by omega) q3 (zi (m_endOf (co := S.1 14) (cn := S.1 15 0) WM hNM (by rw [hvM]; exact hi) ?_ ?_ (zi ?_)))⟩⟩
            · rw [if_pos (Or.inl q6)] at nx
              rw [zw_suc (by omega)]; exact nx
            · rcases fbj with ⟨a1, _⟩ | a1
              · exact absurd a1 q6
              · omega
            · rcases fbj with ⟨a1, _⟩ | a1
              · exact absurd a1 q6
              · have := fr_np hs a1.2.2
                rw [show (((F j).toNat : Nat) : Int) = F j from by omega] at this
                exact this
            · rw [hvM]
              refine ⟨fun q7 => ?_, fun q7 => ?_⟩
              · rw [if_neg (by omega)] at nx
                rw [zw_suc (by omega)]; exact nx
              · rw [if_pos (Or.inr q7)] at nx
                rw [zw_suc (by omega)]; exact nx
          · have hEj : E.testBit j = true := by
              cases hb2 : E.testBit j
              · rw [tb, hb2] at q5; cases q5
              · rfl
            rw [if_neg (by rw [zj, hEj]; simp)] at nx
            rw [zw_suc (by omega)]; exact nx
      have := lp n 0 (by omega)
      rw [F0] at this
      exact this
  -- the beginning
  refine sX12_lightFires ?_
  unfold fr_res at h
  rw [hn2] at h
  have l2 : ∀ (a j : Nat) (M : zM), j + a = k → (∀ i, ¬ (i = 158 ∨ i = 159) → M i = μ i) → (∀ t, 0 ≤ t ∧ t < (n : Int) → M 158 t = -1) → (∀ m, 0 ≤ m ∧ m < (j : Int) → M 159 m = 1000000000) → zT g d mX12_lightFires K 25 [some (.inr (.inr ((0, 12), 119))), some (.inl w), some (.inl (k : Int)), some (.inl (j : Int)), none, none, none, none] [] M := by
    intro a
    induction a with
    | zero =>
      intro j M hj hM h1 h2
      obtain rfl : j = k := by omega
      refine sX12_lightFires_25 ⟨fun _ => ?_, fun q2 => by omega⟩
      refine main n (fr_q0 S.1 (zX S) n) 0 M (by omega) (fr_ok_0 (by omega)) (by have := fr_sub_D (Y := S.1) (X := zX S) (by omega); rw [hn2] at this; exact this) (fr_c_le _ n) (by omega) (fun i hi2 => ?_) hM (fun t ht => by rw [h1 t (by omega)]; rfl) (fun m hm => by rw [h2 m hm]; rfl) h
      show (fr_D S.1 (zX S) n).testBit i = _
      unfold fr_D
      rw [f_bits_test, Nat.zero_testBit]
      simp [hi2]
    | succ a ih =>
      intro j M hj hM h1 h2
      refine sX12_lightFires_25 ⟨fun q2 => by omega, fun q2 => ⟨by omega, ?_⟩⟩
      rw [zw_suc (by omega)]
      refine ih (j + 1) _ (by omega) (fun i hi => by rw [zU_off i (by omega), hM i hi]) (fun t ht => by rw [zU_off 158 (by omega)]; exact h1 t ht) (fun m hm => ?_)
      by_cases q6 : m = (j : Int)
      · subst q6; rw [zU_eq]
      · rw [zU_ne (by omega)]; exact h2 m (by omega)
  have l1 : ∀ (a j : Nat) (M : zM), j + a = n → (∀ i, ¬ (i = 158 ∨ i = 159) → M i = μ i) → (∀ t, 0 ≤ t ∧ t < (j : Int) → M 158 t = -1) → zT g d mX12_lightFires K 2 [some (.inr (.inr ((0, 12), 119))), some (.inl w), some (.inl (k : Int)), some (.inl (j : Int)), none, none, none, none] [] M := by
    intro a
    induction a with
    | zero =>
      intro j M hj hM h1
      obtain rfl : j = n := by omega
      have n1 := (hcs M hM).2.2.2.2.2.1.1
      exact sX12_lightFires_2 ⟨fun _ => l2 k 0 M (by omega) hM h1 (fun m hm => by omega), fun q2 => by have n1 : M 119 18 = zX S 8 0 := n1; omega⟩
    | succ a ih =>
      intro j M hj hM h1
      have n1 : M 119 18 = zX S 8 0 := (hcs M hM).2.2.2.2.2.1.1
      refine sX12_lightFires_2 ⟨fun q2 => by omega, fun q2 => ⟨by omega, ?_⟩⟩
      rw [zw_suc (by omega)]
      refine ih (j + 1) _ (by omega) (fun i hi => by rw [zU_off i (by omega), hM i hi]) (fun t ht => ?_)
      by_cases q6 : t = (j : Int)
      · subst q6; rw [zU_eq]
      · rw [zU_ne (by omega)]; exact h1 t (by omega)
  exact l1 n 0 μ (by omega) (fun _ _ => rfl) (fun t ht => by omega)
end
