-- needs 66
/-! the fires begun, both sides -/
theorem fr_clr_z {D : Nat} {t : Int} (hD : D < 256) (ht : 0 ≤ t ∧ t < 8) : zand (D : Int) (zxor (zshl 1 t) (-1)) = (fr_clr D t : Int) := by
  have lt : fr_clr D t < 256 := f_bits_lt _ 8
  refine zb_ext (zI32_and _ _) (zI32_nat (by omega)) (fun i hi => ?_)
  rw [zbit_and, zbit_not _ _ hi, zbit_nat _ _ hi, zbit_nat _ _ hi, zbit_shl (by omega) i hi, fr_clr_t]
  by_cases q : i < 8
  · by_cases q2 : t.toNat = i
    · have : (i : Int) = t := by omega
      simp [q2, this]
    · have : ¬ (i : Int) = t := by omega
      simp [q, q2, this]
  · have : D.testBit i = false := Nat.testBit_lt_two_pow (Nat.lt_of_lt_of_le hD (Nat.pow_le_pow_right (n := 2) (i := 8) (by omega) (by omega)))
    simp [this]
section
variable {g : zG} {d : Nat} {K : Option zV → zM → Prop} {μ μ' Y X N : zM} {s m i n k j : Nat} {r : List Int} {S : zS} {co : Int → Int} {cn nn x y z b v e p t f st w : Int} {q : zFr}
theorem fr_sub_clr {D : Nat} {t : Int} (h : fr_sub Y X D) : fr_sub Y X (fr_clr D t) := by
  intro i hi
  rw [fr_clr_t] at hi
  simp at hi
  exact h i hi.2.1
theorem fr_sub_D (hx : 0 ≤ X 8 0) : fr_sub Y X (fr_D Y X (X 8 0).toNat) := by
  intro i hi
  unfold fr_D at hi
  rw [f_bits_test] at hi
  simp at hi
  exact ⟨by omega, hi.2⟩
theorem fr_ok_0 (hn : n ≤ 8) : fr_ok n n (fr_q0 Y X n) := by
  refine ⟨?_, fun i hi => ?_, fun m => ?_⟩
  · have := f_bits_lt (fr_nd Y X) n
    have h2 : 2 ^ n ≤ 2 ^ 8 := Nat.pow_le_pow_right (by omega) hn
    show fr_D Y X n < 256
    unfold fr_D
    omega
  · show (fr_D Y X n).testBit i = false
    unfold fr_D
    rw [f_bits_test]
    simp; omega
  · show -1560 + 120 * (n : Int) ≤ (1000000000 : Int) ∧ (1000000000 : Int) ≤ 1000000000
    omega
theorem fr_np {D : Nat} (h : fr_sub Y X D) (hb : D.testBit i = true) : ¬ X 7 (i : Int) = -1 := by
  have := (h i hb).2
  unfold fr_nd at this
  simp at this
  exact this.1
theorem c_beginFires (hd : 3 ≤ d) (hC : cS μ S) (hI : iS nn S) (hw : 1 ≤ w ∧ w ≤ 120) (hk : 1 ≤ k ∧ k ≤ 6) (h : ∀ μ', (∀ j, ¬ (j = 90 ∨ j = 91) → μ' j = μ j) → (∀ t, 0 ≤ t ∧ t < zX S 8 0 → μ' 90 t = (fr_res S.1 (zX S) k w).2.2.1 t) → K (some (.inl (fr_ans S.1 (zX S) k w))) μ') : zCall g d 77 [.inr (.inr ((0, 8), 78)), .inl w, .inl (k : Int)] μ K := by
  have we := hI.env
  have hi : iN S.1 (zX S) := hI.2.2.2.2.2.2.1
  have i8 := hi.1
  have hNμ : cN μ (zX S) := hC.2.2.2.2.2.1
  obtain ⟨n, hn⟩ : ∃ n : Nat, zX S 8 0 = (n : Int) := ⟨(zX S 8 0).toNat, by omega⟩
  have hn2 : (zX S 8 0).toNat = n := by omega
  have hcs : ∀ M : zM, (∀ j, ¬ (j = 90 ∨ j = 91) → M j = μ j) → cS M S := fun M hM => hC.scr (fun j hj => hM j (by unfold z_scr at hj; omega))
  -- the loop over fires
  have main : ∀ (a : Nat) (q : zFr) (M : zM), a ≤ n → fr_ok n a q → fr_sub S.1 (zX S) q.1 → (∀ j, ¬ (j = 90 ∨ j = 91) → M j = μ j) → (∀ t, 0 ≤ t ∧ t < zX S 8 0 → M 90 t = q.2.2.1 t) → (∀ m, 0 ≤ m ∧ m < 6 → M 91 m = q.2.1 m) → (∀ μ', (∀ j, ¬ (j = 90 ∨ j = 91) → μ' j = μ j) → (∀ t, 0 ≤ t ∧ t < zX S 8 0 → μ' 90 t = (fr_go S.1 (zX S) n k w a q).2.2.1 t) → K (some (.inl (fr_go S.1 (zX S) n k w a q).2.2.2)) μ') → zT g d mX8_beginFires K 91 [some (.inr (.inr ((0, 8), 78))), some (.inl w), some (.inl (k : Int)), some (.inl (q.1 : Int)), some (.inl q.2.2.2), some (.inl ((n : Int) - a)), none, none, none] [] M := by
    intro a
    induction a with
    | zero =>
      intro q M ha ho hs hM hb hf hK
      have hCM := hcs M hM
      have hNM : cN M (zX S) := hCM.2.2.2.2.2.1
      have n1 := hNM.1
      exact sX8_beginFires_91 ⟨fun _ => hK M hM hb, fun q2 => by omega⟩
    | succ a ih =>
      intro q M ha ho hs hM hb hf hK
      have hCM := hcs M hM
      have hNM : cN M (zX S) := hCM.2.2.2.2.2.1
      have n1 := hNM.1
      have hvM := hCM.1.1
      simp only [fr_go] at hK
      refine sX8_beginFires_91 ⟨fun q2 => by omega, fun q2 => ⟨fun q3 => ?_, fun q3 => ?_⟩⟩
      · rw [if_pos (by omega)] at hK
        exact hK M hM hb
      · have q4 : ¬ q.1 = 0 := by omega
        rw [if_neg q4] at hK
        have st := fr_ok_step (Y := S.1) (X := zX S) (n := n) (k := k) (j := a) (w := w) (q := q) (by omega) (by omega) hw (fun t ht hbt => fr_end_b hI.W hi (by omega) (by have := fr_np hs hbt; rw [show ((t.toNat : Nat) : Int) = t from by omega] at this; exact this)) q4 ho
        refine ⟨by omega, c_latestOf (by omega) (hCM.W hI) hNM (by rw [hvM]; exact hi) ho.1 (by rw [hvM]; exact hs) (zi ?_)⟩
        rw [hvM, hn2]
        obtain ⟨T, hT⟩ : ∃ T, fr_l S.1 (zX S) q.1 n = T := ⟨_, rfl⟩
        have wl : ∀ (c j : Nat), j + c = k → 1 ≤ j → zT g d mX8_beginFires K 117 [some (.inr (.inr ((0, 8), 78))), some (.inl w), some (.inl (k : Int)), some (.inl (q.1 : Int)), some (.inl q.2.2.2), some (.inl ((n : Int) - (a + 1 : Nat))), some (.inl T), some (.inl (fr_w q.2.1 (j - 1))), some (.inl (j : Int))] [] M := by
          obtain ⟨F, hF⟩ : ∃ F, fr_w q.2.1 = F := ⟨_, rfl⟩
          have Fs : ∀ j : Nat, F (j + 1) = if q.2.1 (F j) < q.2.1 ((j + 1 : Nat) : Int) then ((j + 1 : Nat) : Int) else F j := by intro j; rw [← hF]; rfl
          have Fb : ∀ j : Nat, 0 ≤ F j ∧ F j ≤ (j : Int) := by intro j; rw [← hF]; exact fr_w_b _ j
          rw [hF]
          have stp : fr_step S.1 (zX S) n k w q = (fr_clr q.1 T, (fun m => if m = F (k - 1) then min (fr_end S.1 (zX S) T) (q.2.1 (F (k - 1))) - w else q.2.1 m), (fun t => if t = T then min (fr_end S.1 (zX S) T) (q.2.1 (F (k - 1))) - w else q.2.2.1 t), min q.2.2.2 (min (fr_end S.1 (zX S) T) (q.2.1 (F (k - 1))) - w)) := by
            unfold fr_step
            rw [hT, hF]
          rw [hT] at st
          have f3 := ho.2.2 (F (k - 1))
          have tp : ¬ zX S 7 T = -1 := by have := fr_np hs st.2.2; rw [show ((T.toNat : Nat) : Int) = T from by omega] at this; exact this
          have eb := fr_end_b hI.W hi (t := T) (by omega) tp
          clear hF
          intro c
          induction c with
          | zero =>
            intro j hj h1
            obtain rfl : j = k := by omega
            have fbj := Fb (j - 1)
            refine sX8_beginFires_117 ⟨fun _ => ⟨by omega, c_litBy (hCM.W hI) hNM (by rw [hvM]; exact hi) (by omega) tp (zi ⟨by omega, by omega, ?_⟩)⟩, fun q5 => by omega⟩
            rw [hvM, zU_eq, hf _ (by omega), zwi (x := min (fr_end S.1 (zX S) T) (q.2.1 (F (j - 1))) - w) (by omega) (by omega), fr_clr_z ho.1 (by omega)]
            have nx := ih (fr_step S.1 (zX S) n j w q) (zU (zU M 90 T (min (fr_end S.1 (zX S) T) (q.2.1 (F (j - 1))) - w)) 91 (F (j - 1)) (min (fr_end S.1 (zX S) T) (q.2.1 (F (j - 1))) - w)) (by omega) st.1 (by rw [stp]; exact fr_sub_clr hs) (fun q hq => by rw [zU_off q (by omega), zU_off q (by omega), hM q hq]) (fun t ht => ?_) (fun m hm => ?_) hK
            · rw [stp] at nx
              rw [show zw ((n : Int) - ((a + 1 : Nat) : Int) + 1) = (n : Int) - (a : Int) from by rw [zwi (by omega) (by omega)]; omega]
              exact nx
            · rw [stp, zU_off 90 (by omega)]
              show _ = if t = T then _ else _
              by_cases q6 : t = T
              · subst q6; rw [zU_eq, if_pos rfl]
              · rw [zU_ne (by omega), if_neg q6]; exact hb t ht
            · rw [stp]
              show _ = if m = F (j - 1) then _ else _
              by_cases q6 : m = F (j - 1)
              · rw [if_pos q6, q6, zU_eq]
              · rw [zU_ne (by omega), if_neg q6, zU_off 91 (by omega)]; exact hf m hm
          | succ c ihc =>
            intro j hj h1
            have fbj := Fb (j - 1)
            have nx := ihc (j + 1) (by omega) (by omega)
            rw [show j + 1 - 1 = (j - 1) + 1 from by omega, Fs (j - 1), show j - 1 + 1 = j from by omega] at nx
            refine sX8_beginFires_117 ⟨fun q5 => by omega, fun q5 => ⟨by omega, by omega, ?_⟩⟩
            rw [hf _ (by omega), hf _ (by omega)]
            refine ⟨fun q6 => ?_, fun q6 => ?_⟩
            · rw [if_neg (by omega)] at nx
              rw [zw_suc (by omega)]; exact nx
            · rw [if_pos q6] at nx
              rw [zw_suc (by omega)]; exact nx
        have := wl (k - 1) 1 (by omega) (by omega)
        rw [hT]
        exact this
  -- the beginning
  refine sX8_beginFires ⟨by omega, c_fill (by omega) (fun M1 hM1 hf1 => zn ?_)⟩
  have lp : ∀ (a j : Nat) (M : zM), (j : Int) + a = zX S 8 0 → (∀ i, ¬ (i = 90 ∨ i = 91) → M i = μ i) → M 91 = M1 91 → (∀ t, 0 ≤ t ∧ t < (j : Int) → M 90 t = -1) → zT g d mX8_beginFires K 14 [some (.inr (.inr ((0, 8), 78))), some (.inl w), some (.inl (k : Int)), some (.inl (f_bits (fr_nd S.1 (zX S)) j : Int)), some (.inl (j : Int)), none, none, none, none] [] M := by
    intro a
    induction a with
    | zero =>
      intro j M hj hM h91 h90
      obtain rfl : j = n := by omega
      have hNM : cN M (zX S) := (hcs M hM).2.2.2.2.2.1
      have n1 := hNM.1
      have q0 : ∀ t, 0 ≤ t ∧ t < zX S 8 0 → M 90 t = (fr_q0 S.1 (zX S) j).2.2.1 t := fun t ht => by rw [h90 t (by omega)]; rfl
      unfold fr_ans fr_res at h
      rw [hn2] at h
      refine sX8_beginFires_14 ⟨fun _ => ⟨fun q2 => ?_, fun q2 => ?_⟩, fun q2 => by omega⟩
      · have q3 : ¬ fr_D S.1 (zX S) j = 0 := by unfold fr_D; omega
        rw [if_neg q3] at h
        have := main j (fr_q0 S.1 (zX S) j) M (by omega) (fr_ok_0 (by omega)) (by have := fr_sub_D (Y := S.1) (X := zX S) (by omega); rw [hn2] at this; exact this) hM q0 (fun m hm => by rw [h91, hf1 m (by omega)]; rfl) h
        rw [show ((j : Int)) - (j : Int) = 0 from by omega] at this
        exact this
      · have q3 : fr_D S.1 (zX S) j = 0 := by unfold fr_D; omega
        rw [if_pos q3] at h
        have fin : K (some (.inl (-5000))) M := h M hM (fun t ht => by
          rw [q0 t ht]
          have : fr_go S.1 (zX S) j k w j (fr_q0 S.1 (zX S) j) = fr_q0 S.1 (zX S) j := by
            cases j with
            | zero => rfl
            | succ j =>
              simp only [fr_go]
              rw [if_pos (show (fr_q0 S.1 (zX S) (j + 1)).1 = 0 from q3)]
          rw [this])
        rw [q2]
        exact sX8_beginFires_91 ⟨fun _ => fin, fun _ => ⟨fun _ => fin, fun q5 => absurd rfl q5⟩⟩
    | succ a ih =>
      intro j M hj hM h91 h90
      have hCM := hcs M hM
      have hNM : cN M (zX S) := hCM.2.2.2.2.2.1
      have n1 := hNM.1
      have e7 := hNM.2.2.1 (j : Int) (by omega)
      have i7 := (hi.2.1 (j : Int) (by omega)).2
      have nx := ih (j + 1) (zU M 90 (j : Int) (-1)) (by omega) (fun i hi => by rw [zU_off i (by omega), hM i hi]) (by rw [zU_off 91 (by omega)]; exact h91) (fun t ht => by
        by_cases q6 : t = (j : Int)
        · subst q6; rw [zU_eq]
        · rw [zU_ne (by omega)]; exact h90 t (by omega))
      refine sX8_beginFires_14 ⟨fun q2 => by omega, fun q2 => ⟨by omega, ?_⟩⟩
      rw [e7]
      refine ⟨fun q3 => ?_, fun q3 => ⟨by omega, fun q4 => ?_, fun q4 => ?_⟩⟩
      · rw [← z_no_bit (p := fr_nd S.1 (zX S)) (n := j) (by simp [fr_nd, q3])] at nx
        rw [zw_suc (by omega)]; exact nx
      · rw [(hCM.en (by omega)).2.1] at q4
        rw [← z_no_bit (p := fr_nd S.1 (zX S)) (n := j) (by simp [fr_nd, q4])] at nx
        rw [zw_suc (by omega)]; exact nx
      · rw [(hCM.en (by omega)).2.1] at q4
        rw [zw_suc (by omega), z_or_bit (p := fr_nd S.1 (zX S)) (n := j) (by omega) (by simp [fr_nd, q3, q4])]; exact nx
  exact lp n 0 M1 (by omega) (fun i hi => hM1 i (by omega)) rfl (fun t ht => by omega)
end
