-- needs 101
/-! rule: the class's readCore, readNumber, readThing (laid in part by program) -/
theorem sX6_readCore {g : zG} {d : Nat} {K : Option zV → zM → Prop} {μ : zM} {x1 : Int} (h : (0 ≤ (μ 12 6) ∧ (μ 12 6) < 60) ∧ ((0 < d) ∧ zCall g (d - 1) 53 [.inl (μ 13 (μ 12 6))] μ (zBz (fun μ1 => zCall g (d - 1) 52 [.inr (.inr ((0, 6), 12))] μ1 (zNn fun μ2 => K (some (.inl 1)) μ2)) (fun μ1 => (¬ (μ 13 (μ 12 6)) = 40 → zT g d mX6_readCore K 96 [some (.inr (.inr ((0, 6), 12))), none, some (.inl (μ 13 (μ 12 6))), none] [] μ1) ∧ ((μ 13 (μ 12 6)) = 40 → ((x1 < 5 → (zCall g (d - 1) 49 [.inr (.inr ((0, 6), 12)), .inl 0, .inl (zw (x1 + 1))] (zU μ1 12 6 (zw ((μ1 12 6) + 1))) (zBz (fun μ3 => ((μ3 12 7) ≤ (μ3 12 6) → K (some (.inl 0)) μ3) ∧ ((μ3 12 6) < (μ3 12 7) → ((0 ≤ (μ3 12 6) ∧ (μ3 12 6) < 60) ∧ (((μ3 13 (μ3 12 6)) = 41 → K (some (.inl 1)) (zU μ3 12 6 (zw ((μ3 12 6) + 1)))) ∧ (¬ (μ3 13 (μ3 12 6)) = 41 → K (some (.inl 0)) μ3))))) (fun μ3 => K (some (.inl 0)) μ3)))) ∧ (5 ≤ x1 → K (some (.inl 0)) μ1))))))) : zCall g d 51 [.inr (.inr ((0, 6), 12)), .inl x1] μ K := zcX6_readCore [(96, [0, 2]), (104, [0, 3])] 999 rfl (fun _ _ => And.intro h.1 (And.intro h.2.1 (zC_B (fun μ1 h0 => And.intro (fun q => absurd q (show ¬ ((1 : Int) = (0 : Int)) by decide)) (fun _ => And.intro h.2.1 (zC_N (fun μ2 h1 => And.intro (Or.inr rfl) (h1)) h0))) (fun μ1 h0 => And.intro (fun _ => And.intro (fun q1 => (h0.1 q1)) (fun q1 => And.intro (fun q2 => And.intro h.2.1 (zC_B (fun μ3 h3 => And.intro (fun q => absurd q (show ¬ ((1 : Int) = (0 : Int)) by decide)) (fun _ => And.intro (fun q4 => And.intro (Or.inl rfl) ((h3.1 q4))) (fun q4 => And.intro (h3.2 q4).1 (And.intro (fun q5 => And.intro (Or.inr rfl) (((h3.2 q4).2.1 q5))) (fun q5 => And.intro (Or.inl rfl) (((h3.2 q4).2.2 q5))))))) (fun μ3 h3 => And.intro (fun _ => And.intro (Or.inl rfl) (h3)) (fun q => absurd q (show ¬ (¬ (0 : Int) = (0 : Int)) by decide))) ((h0.2 q1).1 q2))) (fun q2 => And.intro (Or.inl rfl) (((h0.2 q1).2 q2))))) (fun q => absurd q (show ¬ (¬ (0 : Int) = (0 : Int)) by decide))) h.2.2)))
theorem sX6_readCore_104 {g : zG} {d : Nat} {K : Option zV → zM → Prop} {μ : zM} {x3 : Int} (h : (0 ≤ x3 → ((0 < d) ∧ zCall g (d - 1) 55 [.inr (.inr ((0, 6), 12)), .inl (zw ((-1) - x3))] μ (zNn fun μ1 => K (some (.inl 1)) (zU μ1 12 6 (zw ((μ1 12 6) + 1)))))) ∧ (x3 < 0 → K (some (.inl 0)) μ)) : zT g d mX6_readCore K 104 [some (.inr (.inr ((0, 6), 12))), none, none, some (.inl x3)] [] μ := ztX6_readCore [(96, [0, 2]), (104, [0, 3])] 999 rfl (And.intro (fun q0 => And.intro (h.1 q0).1 (zC_N (fun μ1 h1 => And.intro (Or.inr rfl) (h1)) (h.1 q0).2)) (fun q0 => And.intro (Or.inl rfl) ((h.2 q0))))
theorem zi2c_256 : ∀ c : Nat, c < 256 → ((Int32.ofInt (c : Int)).toUInt32 % 65536).toInt32 = Int32.ofInt (c : Int) := by decide +kernel
theorem z256 : ∀ c : Nat, c < 256 → ¬ Int32.ofInt (c : Int) < 0 ∧ ¬ (255 : Int32) < Int32.ofInt (c : Int) := by decide +kernel
/-- all but the place holds -/
def q_call1 (g : zG) (d : Nat) (id : Nat) (args : List zV) (H : Int → Int) (m : Int) (jd : Nat) (f : Int → zRes) : Prop := ∀ (μ : zM) (K : Option zV → zM → Prop), q_pre H m jd μ → μ 12 6 < m → (∀ μ', q_post jd μ μ' (f (μ 12 6)).1 (f (μ 12 6)).2.1 → K (some (.inl (zB (f (μ 12 6)).2.2))) μ') → zCall g d id args μ K
section
variable {g : zG} {d : Nat} {K : Option zV → zM → Prop} {μ : zM} {s o : Nat} {e a b x y m l : Int} {H : Int → Int} {jd : Nat}
theorem c_readThing1 {dep : Int} {sub : Int → zRes} {deep : Bool} (hd : 2 ≤ d) (hs : p_fit H m sub) (hsub : q_call1 g (d - 1) 51 [.inr (.inr ((0, 6), 12)), .inl dep] H m jd (p_core H sub deep)) : q_call g d 50 [.inr (.inr ((0, 6), 12)), .inl dep] H m jd (p_thing H sub deep 41) := by
  intro μ K hp hK
  have hp6 := hp.2.2.2.2.2
  have hm := hp.1
  have hH := hp.2.2.2.2.1
  have cfit : p_fit H m (p_core H sub deep) := p_core_fit hH hs
  refine sX6_readThing ?_
  -- behind the core: signs are written from the last to the first
  have back : ∀ (k : Nat) (i : Int) (M : zM) (a2 : Int) (c2 : List Int), i + 1 = μ 12 6 + k → q_post jd μ M a2 c2 → i + 1 ≤ a2 ∧ a2 ≤ m → (c2.length : Int) ≤ a2 - (i + 1) → (∀ j, μ 12 6 ≤ j ∧ j ≤ i → H j = 33 ∨ H j = 45) → (∀ μ', q_post jd μ μ' a2 (c2 ++ (List.range k).map (fun t : Nat => if H (i - (t : Int)) = 33 then -9 else -10)) → K (some (.inl 1)) μ') → zT g d mX6_readThing K 88 [some (.inr (.inr ((0, 6), 12))), none, some (.inl (μ 12 6)), none, some (.inl i)] [] M := by
    intro k
    induction k with
    | zero =>
      intro i M a2 c2 hi hM ha hc hpre hfin
      refine sX6_readThing_88 ⟨fun q => hfin M ?_, fun q => absurd q (by omega)⟩
      simpa using hM
    | succ k ih =>
      intro i M a2 c2 hi hM ha hc hpre hfin
      have hpM := q_pre_post hp hM (by omega) (by omega)
      have h35 : M 12 5 < 40 := by
        have := hM.2.2.2.1
        omega
      have hpi := hpre i (by omega)
      have im : i < m := by
        by_cases q : m ≤ i
        · have := hH i q; omega
        · omega
      have zi1 : zw (i + -1) = i - 1 := by rw [zwi (x := i + -1) (by omega) (by omega)]; omega
      have e13 : M 13 i = 33 ↔ H i = 33 := q_at hpM (by omega) 33 (by omega)
      have lst : ∀ c2 : List Int, c2 ++ (List.range (k + 1)).map (fun t : Nat => if H (i - (t : Int)) = 33 then (-9 : Int) else -10) = c2 ++ [if H i = 33 then (-9 : Int) else -10] ++ (List.range k).map (fun t : Nat => if H (i - 1 - (t : Int)) = 33 then (-9 : Int) else -10) := by
        intro c2
        rw [List.range_succ_eq_map, List.map_cons, List.map_map, List.append_assoc]
        congr 1
        show [_] ++ _ = [_] ++ _
        congr 1
        · simp
        · apply List.map_congr_left
          intro t _
          simp only [Function.comp]
          rw [show i - ((Nat.succ t : Nat) : Int) = i - 1 - (t : Int) from by omega]
      refine sX6_readThing_88 ⟨fun q => absurd q (by omega), fun q => ⟨by omega, fun q2 => ⟨by omega, c_write hpM h35 (fun M4 hq4 => zn ?_)⟩, fun q2 => ⟨by omega, c_write hpM h35 (fun M4 hq4 => zn ?_)⟩⟩⟩
      · have hM4 := q_post_trans hp6.1 hM hq4
        rw [hM.2.2.1] at hM4
        rw [zi1]
        refine ih (i - 1) M4 a2 (c2 ++ [-10]) (by omega) hM4 (by omega) (by rw [List.length_append, List.length_cons, List.length_nil]; omega) (fun j hj => hpre j (by omega)) (fun μ' hq => hfin μ' ?_)
        rw [lst c2, if_neg (by rw [← e13]; exact q2)]
        exact hq
      · have hM4 := q_post_trans hp6.1 hM hq4
        rw [hM.2.2.1] at hM4
        rw [zi1]
        refine ih (i - 1) M4 a2 (c2 ++ [-9]) (by omega) hM4 (by omega) (by rw [List.length_append, List.length_cons, List.length_nil]; omega) (fun j hj => hpre j (by omega)) (fun μ' hq => hfin μ' ?_)
        rw [lst c2, if_pos (by rw [← e13]; exact q2)]
        exact hq
  -- forward over the signs
  have fwd : ∀ (k : Nat) (n : Nat) (M : zM), (m - (μ 12 6 + n)) < k → μ 12 6 + n ≤ m → q_post jd μ M (μ 12 6 + n) [] → (∀ j, μ 12 6 ≤ j ∧ j < μ 12 6 + n → H j = 33 ∨ H j = 45) → (∀ μ', q_post jd μ μ' (p_thing H sub deep k (μ 12 6 + n)).1 (match p_thing H sub deep k (μ 12 6 + n) with
      | (_, c, true) => c ++ (List.range n).map (fun t : Nat => if H (μ 12 6 + n - 1 - (t : Int)) = 33 then -9 else -10)
      | (_, c, false) => c) → K (some (.inl (zB (p_thing H sub deep k (μ 12 6 + n)).2.2))) μ') → zT g d mX6_readThing K 5 [some (.inr (.inr ((0, 6), 12))), some (.inl dep), some (.inl (μ 12 6)), none, none] [] M := by
    intro k
    induction k with
    | zero => intro n M hk hn hM hpre hfin; omega
    | succ k ih =>
      intro n M hk hn hM hpre hfin
      have hpM := q_pre_post hp hM (by omega) (by simp; omega)
      have hat : M 12 6 = μ 12 6 + n := hM.2.2.1
      have hlim : M 12 7 = m := hpM.1.1
      have n12 : ¬ jd = 12 := by have := hp.2.1; omega
      have on : μ 12 6 + n < m → q_post jd μ (zU M 12 6 (zw (M 12 6 + 1))) (μ 12 6 + (n + 1 : Nat)) [] := by
        intro hlt
        obtain ⟨g1, g2, g3, g4, g5, g6⟩ := hM
        rw [hat, zwi (x := μ 12 6 + (n : Int) + 1) (by omega) (by omega)]
        exact ⟨fun j q1 q2 => by rw [zU_off j q1, g1 j q1 q2], fun i q1 q2 => by rw [zU_ne (by omega), g2 i q1 q2], by rw [zU_eq]; omega, by rw [zU_ne (by omega), g4], fun i hi => by rw [zU_off jd n12, g5 i hi], fun k hk => by simp at hk⟩
      -- the next sign is a prefix
      have stepon : ∀ (x : Int), (H (μ 12 6 + n) = 33 ∧ x = -9 ∨ H (μ 12 6 + n) = 45 ∧ x = -10) → μ 12 6 + n < m → zT g d mX6_readThing K 5 [some (.inr (.inr ((0, 6), 12))), some (.inl dep), some (.inl (μ 12 6)), none, none] [] (zU M 12 6 (zw (M 12 6 + 1))) := by
        intro x hx hlt
        have hsp : p_thing H sub deep (k + 1) (μ 12 6 + n) = p_app x (p_thing H sub deep k (μ 12 6 + (n + 1 : Nat))) := by
          have ea : μ 12 6 + (n : Int) + 1 = μ 12 6 + ((n + 1 : Nat) : Int) := by omega
          simp only [p_thing]
          rcases hx with ⟨h1, rfl⟩ | ⟨h1, rfl⟩
          · rw [if_pos h1, ea]
          · rw [if_neg (by omega), if_pos h1, ea]
        refine ih (n + 1) _ (by omega) (by omega) (on hlt) (fun j hj => ?_) (fun μ' hq => ?_)
        · by_cases q : j = μ 12 6 + n
          · subst q; rcases hx with ⟨h1, _⟩ | ⟨h1, _⟩
            · exact Or.inl h1
            · exact Or.inr h1
          · exact hpre j (by omega)
        · have := hfin μ'
          rw [hsp] at this
          rw [p_app_1, p_app_3] at this
          generalize p_thing H sub deep k (μ 12 6 + (n + 1 : Nat)) = res at *
          obtain ⟨a3, c3, ok3⟩ := res
          cases ok3
          · exact this hq
          · simp only [p_app] at this
            refine this ?_
            simp only [] at hq
            rw [List.range_succ_eq_map, List.map_cons, List.map_map] at hq
            have e : (c3 ++ [x] ++ (List.range n).map (fun t : Nat => if H (μ 12 6 + n - 1 - (t : Int)) = 33 then (-9 : Int) else -10)) = (c3 ++ (if H (μ 12 6 + ((n + 1 : Nat) : Int) - 1 - ((0 : Nat) : Int)) = 33 then (-9 : Int) else -10) :: (List.range n).map ((fun t : Nat => if H (μ 12 6 + ((n + 1 : Nat) : Int) - 1 - (t : Int)) = 33 then (-9 : Int) else -10) ∘ Nat.succ)) := by
              rw [List.append_assoc]
              congr 1
              show x :: _ = _ :: _
              congr 1
              · rw [show μ 12 6 + ((n + 1 : Nat) : Int) - 1 - ((0 : Nat) : Int) = μ 12 6 + n from by omega]
                rcases hx with ⟨h1, rfl⟩ | ⟨h1, rfl⟩
                · rw [if_pos h1]
                · rw [if_neg (by omega)]
              · apply List.map_congr_left
                intro t _
                simp only [Function.comp]
                rw [show μ 12 6 + ((n + 1 : Nat) : Int) - 1 - ((Nat.succ t : Nat) : Int) = μ 12 6 + (n : Int) - 1 - (t : Int) from by omega]
            rw [e]
            exact hq
      -- here is none
      have core : ¬ H (μ 12 6 + n) = 33 → ¬ H (μ 12 6 + n) = 45 → (p_thing H sub deep (k + 1) (μ 12 6 + n) = p_core H sub deep (μ 12 6 + n)) := by
        intro h1 h2
        simp only [p_thing]
        rw [if_neg h1, if_neg h2]
      refine sX6_readThing_5 ⟨fun q => ?_, fun q => ⟨by omega, fun q2 => stepon (-9) (Or.inl ⟨by rw [← hat]; exact (q_at hpM (by omega) 33 (by omega)).1 q2, rfl⟩) (by omega), fun q2 => ⟨fun q3 => ⟨by omega, ?_⟩, fun q3 => stepon (-10) (Or.inr ⟨by rw [← hat]; exact (q_at hpM (by omega) 45 (by omega)).1 q3, rfl⟩) (by omega)⟩⟩⟩
      · have e1 := hH (μ 12 6 + n) (by omega)
        have := hfin M
        rw [core (by omega) (by omega)] at this
        simp only [p_core, e1] at this
        rw [if_neg (by omega), if_neg (by omega), if_pos (by simp [p_letter])] at this
        exact this hM
      · have n33 : ¬ H (μ 12 6 + n) = 33 := by rw [← hat]; intro h9; exact q2 ((q_at hpM (by omega) 33 (by omega)).2 h9)
        have n45 : ¬ H (μ 12 6 + n) = 45 := by rw [← hat]; intro h9; exact q3 ((q_at hpM (by omega) 45 (by omega)).2 h9)
        rw [core n33 n45] at hfin
        have cf := cfit (μ 12 6 + n) (by omega)
        refine hsub M _ hpM (by omega) (fun M2 hq2 => ?_)
        rw [hat] at hq2 ⊢
        have hM2 := q_post_trans hp6.1 hM hq2
        rw [List.nil_append] at hM2
        generalize p_core H sub deep (μ 12 6 + n) = res at *
        obtain ⟨a3, c3, ok3⟩ := res
        cases ok3
        · exact zb0 (hfin M2 hM2)
        · simp only [] at hfin hM2 cf
          refine zb1 ?_
          rw [zwi (x := μ 12 6 + (n : Int) - 1) (by omega) (by omega)]
          exact back n (μ 12 6 + n - 1) M2 a3 c3 (by omega) hM2 (by omega) (by omega) (fun j hj => hpre j (by omega)) hfin
  have := fwd 41 0 μ (by omega) (by omega) (by rw [show μ 12 6 + ((0 : Nat) : Int) = μ 12 6 from by omega]; exact q_post_refl jd μ) (fun j hj => by omega)
  rw [show μ 12 6 + ((0 : Nat) : Int) = μ 12 6 from by omega] at this
  refine this (fun μ' hq => hK μ' ?_)
  generalize p_thing H sub deep 41 (μ 12 6) = res at *
  obtain ⟨a3, c3, ok3⟩ := res
  cases ok3
  · exact hq
  · simpa using hq
theorem c_core96 (hx : 0 ≤ x ∧ x ≤ 255) (hd : 4 ≤ d) (h : zT g d mX6_readCore K 104 [some (.inr (.inr ((0, 6), 12))), none, none, some (.inl (p_letter x))] [] μ) : zT g d mX6_readCore K 96 [some (.inr (.inr ((0, 6), 12))), none, some (.inl x), none] [] μ := by
  rcases h with h | h
  · refine Or.inl ?_
    intro p e R s m args below meth c H locs cells slots Q ls C hl hs hv hr hS hret
    obtain ⟨n, rfl⟩ : ∃ n : Nat, x = (n : Int) := ⟨x.toNat, by omega⟩
    have n8 : n < 256 := by omega
    have C0 : jCx g d RX6 cX6_readCore 4 p R s m args c cells slots := C
    obtain ⟨hx, hb, hml, hown, hw, hst, hfr, hlo, hce, hsl⟩ := C0
    have hls : lv_has ls 4 [(0, .ref (zad g 12))] := ⟨hl.1, hl.2.1, fun q hq => by
      have : q = (0, Value.ref (zad g 12)) := by simpa using hq
      subst this
      exact hl.2.2 0 (.inr (.inr ((0, 6), 12))) rfl⟩
    refine va_ldcS hx hb hown hst.2.2.2.2.2.2.1 (show decode cX6_readCore 96 = .ok (.ldc 73, 2) from by decide +kernel) ?_
    refine lv_iload_n (i := 2) hx hb (show decode cX6_readCore 98 = .ok (.iload_n 2, 1) from by decide +kernel) rfl (hl.2.2 2 (.inl (n : Int)) rfl) ?_
    refine lv_i2c (v := Int32.ofInt (n : Int)) hx hb (show decode cX6_readCore 99 = .ok (.i2c, 1) from by decide +kernel) (zi2c_256 n n8) ?_
    refine j_callV (as := [.int (Int32.ofInt (n : Int))]) (rest := []) C hl.1 hS (j_indexOf1 (by omega) (z256 n n8).1 (z256 n n8).2) jp_indexOf1 jv_indexOf1 (by omega) rfl rfl (by decide) (show decode cX6_readCore 100 = .ok (.invokevirtual 75, 3) from by decide +kernel) (fun locs1 hS1 => ?_)
    rw [jix_letter n n8]
    refine lv_istore_n (i := 3) hx hb (show decode cX6_readCore 103 = .ok (.istore_n 3, 1) from by decide +kernel) rfl hls (by omega) rfl (fun ls1 hl1 => ?_)
    have pb : zI32 (p_letter (n : Int)) := by
      unfold zI32 p_letter
      (repeat' split) <;> omega
    refine h p e R s m args below meth c H locs1 cells slots Q ls1 C ⟨hl1.1, hl1.2.1, fun i v hi => ?_⟩ (fun v hv => by cases hv) (fun i v hi => ?_) hr hS1 hret
    · match i, hi with
      | 0, hi => cases hi; exact lv_at hl1 1 rfl
      | 1, hi => cases hi
      | 2, hi => cases hi
      | 3, hi => cases hi; exact lv_at hl1 0 rfl
      | i + 4, hi => simp [zget] at hi
    · match i, hi with
      | 0, hi => cases hi; exact hv 0 _ rfl
      | 1, hi => cases hi
      | 2, hi => cases hi
      | 3, hi => cases hi; exact pb
      | i + 4, hi => simp [zget] at hi
  · exact h.elim
theorem p_letter_8 (h : 0 ≤ x ∧ x ≤ 255) : p_letter (if x < 128 then x else x - 256) = p_letter x := by
  split
  · rfl
  · unfold p_letter
    repeat rw [if_neg (by omega)]
theorem q_dig (h : q_pre H m jd μ) (ha : 0 ≤ x ∧ x < m) : (48 ≤ μ 13 x ∧ μ 13 x ≤ 57 ↔ 48 ≤ H x ∧ H x ≤ 57) ∧ (48 ≤ H x ∧ H x ≤ 57 → μ 13 x = H x) := by
  have := h.2.2.2.1 x ha
  rw [this.2]
  split <;> omega
theorem q_on {M : zM} {c2 : List Int} (hp : q_pre H m jd μ) (hM : q_post jd μ M a c2) (ha : a < m ∧ 0 ≤ a) : q_post jd μ (zU M 12 6 (zw (M 12 6 + 1))) (a + 1) c2 := by
  obtain ⟨g1, g2, g3, g4, g5, g6⟩ := hM
  have hm := hp.1
  have n12 : ¬ jd = 12 := by have := hp.2.1; omega
  rw [g3, zwi (x := a + 1) (by omega) (by omega)]
  exact ⟨fun j q1 q2 => by rw [zU_off j q1, g1 j q1 q2], fun i q1 q2 => by rw [zU_ne (by omega), g2 i q1 q2], zU_eq, by rw [zU_ne (by omega), g4], fun i hi => by rw [zU_off jd n12, g5 i hi], fun k hk => by rw [zU_off jd n12, g6 k hk]⟩
theorem c_readNumber (hd : 1 ≤ d) (hp : q_pre H m jd μ) (hlt : μ 12 6 < m) (hK : ∀ μ', q_post jd μ μ' (p_num H 3 (μ 12 6) 0).1 [(p_num H 3 (μ 12 6) 0).2] → K none μ') : zCall g d 52 [.inr (.inr ((0, 6), 12))] μ K := by
  have hp6 := hp.2.2.2.2.2
  have hm := hp.1
  have hH := hp.2.2.2.2.1
  have loop : ∀ (k : Nat) (i v a : Int) (M : zM), i + k = 3 → k ≤ 3 → (k = 3 → v = 0) → (k = 2 → 0 ≤ v ∧ v ≤ 9) → (k = 1 → 0 ≤ v ∧ v ≤ 99) → q_post jd μ M a [] → μ 12 6 ≤ a ∧ a ≤ m → (∀ μ', q_post jd μ μ' (p_num H k a v).1 [(p_num H k a v).2] → K none μ') → zT g d mX6_readNumber K 4 [some (.inr (.inr ((0, 6), 12))), some (.inl v), some (.inl i)] [] M := by
    intro k
    induction k with
    | zero =>
      intro i v a M hi hk3 h3 h2 h1 hM ha hfin
      have hpM := q_pre_post hp hM ha (by simp; omega)
      have h35 : M 12 5 < 40 := by have := hM.2.2.2.1; simp at this; omega
      refine sX6_readNumber_4 ⟨fun _ => ⟨by omega, c_write hpM h35 (fun M4 hq4 => zn (hfin M4 ?_))⟩, fun q => by omega⟩
      have := q_post_trans hp6.1 hM hq4
      rw [hM.2.2.1] at this
      exact this
    | succ k ih =>
      intro i v a M hi hk3 h3 h2 h1 hM ha hfin
      have hpM := q_pre_post hp hM ha (by simp; omega)
      have h35 : M 12 5 < 40 := by have := hM.2.2.2.1; simp at this; omega
      have hat : M 12 6 = a := hM.2.2.1
      have hlim : M 12 7 = m := hpM.1.1
      have fin0 : ¬ (48 ≤ H a ∧ H a ≤ 57) → ∀ M4, q_post jd M M4 (M 12 6) [v] → K none M4 := by
        intro q M4 hq4
        refine hfin M4 ?_
        have e : p_num H (k + 1) a v = (a, v) := if_neg q
        rw [e]
        have := q_post_trans hp6.1 hM hq4
        rw [hat] at this
        exact this
      refine sX6_readNumber_4 ⟨fun q => by omega, fun _ => ⟨fun q => ⟨by omega, c_write hpM h35 (fun M4 hq4 => zn (fin0 ?_ M4 hq4))⟩, fun q => ⟨by omega, by omega, c_isDigit (fun q2 => zb1 ⟨by omega, ?_⟩) (fun q2 => zb0 (c_write hpM h35 (fun M4 hq4 => zn (fin0 ?_ M4 hq4))))⟩⟩⟩
      · rw [hH a (by omega)]; omega
      · have qd := q_dig (x := a) hpM (by omega)
        rw [hat] at q2 ⊢
        have hd9 := qd.1.1 q2
        have e13 := qd.2 hd9
        have vb : 0 ≤ v ∧ v ≤ 99 := by
          have : k = 0 ∨ k = 1 ∨ k = 2 := by omega
          rcases this with rfl | rfl | rfl <;> omega
        rw [e13, zwi (x := v * 10) (by omega) (by omega), zwi (x := v * 10 + H a) (by omega) (by omega), zwi (x := v * 10 + H a - 48) (by omega) (by omega), zwi (x := i + 1) (by omega) (by omega)]
        have hM2 := q_on hp hM ⟨by omega, by omega⟩
        rw [hat] at hM2
        refine ih (i + 1) (v * 10 + H a - 48) (a + 1) _ (by omega) (by omega) (by omega) (by omega) (by omega) hM2 (by omega) (fun μ' hq => hfin μ' ?_)
        have e : p_num H (k + 1) a v = p_num H k (a + 1) (v * 10 + H a - 48) := if_pos hd9
        rw [e]
        exact hq
      · have qd := q_dig (x := a) hpM (by omega)
        rw [hat] at q2
        exact fun hh => q2 (qd.1.2 hh)
  exact sX6_readNumber (loop 3 0 0 (μ 12 6) μ (by omega) (by omega) (by omega) (by omega) (by omega) (q_post_refl jd μ) (by omega) hK)
theorem c_readCore {dep : Int} {sub : Int → zRes} {deep : Bool} (hd : 5 ≤ d) (hdp : 0 ≤ dep ∧ dep ≤ 5) (hdeep : deep = decide (dep < 5)) (hs : p_fit H m sub) (hsub : deep = true → q_call g (d - 1) 49 [.inr (.inr ((0, 6), 12)), .inl 0, .inl (dep + 1)] H m jd sub) : q_call1 g d 51 [.inr (.inr ((0, 6), 12)), .inl dep] H m jd (p_core H sub deep) := by
  intro μ K hp hlt hK
  have hp6 := hp.2.2.2.2.2
  have hm := hp.1
  have hH := hp.2.2.2.2.1
  have h35 : μ 12 5 < 40 := by omega
  have h13 := hp.2.2.2.1 (μ 12 6) (by omega)
  have qd := q_dig (x := μ 12 6) hp (by omega)
  have q40 : μ 13 (μ 12 6) = 40 ↔ H (μ 12 6) = 40 := q_at hp (by omega) 40 (by omega)
  unfold p_core at hK
  refine sX6_readCore ⟨by omega, by omega, c_isDigit (fun q => zb1 (c_readNumber (by omega) hp hlt (fun M hM => zn ?_))) (fun q => zb0 ⟨fun q2 => c_core96 h13.1 (by omega) (sX6_readCore_104 ⟨fun q3 => ⟨by omega, ?_⟩, fun q3 => ?_⟩), fun q2 => ⟨fun q3 => ?_, fun q3 => ?_⟩⟩)⟩
  · have q' := qd.1.1 q
    rw [if_pos q'] at hK
    exact hK M hM
  · have q' : ¬ (48 ≤ H (μ 12 6) ∧ H (μ 12 6) ≤ 57) := fun hh => q (qd.1.2 hh)
    have q2' : ¬ H (μ 12 6) = 40 := fun hh => q2 (q40.2 hh)
    have el : p_letter (H (μ 12 6)) = p_letter (μ 13 (μ 12 6)) := by rw [h13.2]; exact p_letter_8 h13.1
    rw [if_neg q', if_neg q2', if_neg (by rw [el]; omega)] at hK
    have pb : p_letter (μ 13 (μ 12 6)) ≤ 7 := by
      unfold p_letter
      (repeat' split) <;> omega
    rw [zwi (x := -1 - p_letter (μ 13 (μ 12 6))) (by omega) (by omega)]
    refine c_write hp h35 (fun M hM => zn (hK _ ?_))
    rw [el]
    have hM2 := q_on hp hM ⟨by omega, by omega⟩
    exact hM2
  · have q' : ¬ (48 ≤ H (μ 12 6) ∧ H (μ 12 6) ≤ 57) := fun hh => q (qd.1.2 hh)
    have q2' : ¬ H (μ 12 6) = 40 := fun hh => q2 (q40.2 hh)
    have el : p_letter (H (μ 12 6)) = p_letter (μ 13 (μ 12 6)) := by rw [h13.2]; exact p_letter_8 h13.1
    have pb : -1 ≤ p_letter (μ 13 (μ 12 6)) := by
      unfold p_letter
      (repeat' split) <;> omega
    rw [if_neg q', if_neg q2', if_pos (by rw [el]; omega)] at hK
    exact hK μ (q_post_refl jd μ)
  · have q' : ¬ (48 ≤ H (μ 12 6) ∧ H (μ 12 6) ≤ 57) := fun hh => q (qd.1.2 hh)
    have dt : deep = true := by rw [hdeep]; simp; omega
    rw [if_neg q', if_pos (q40.1 q2), dt] at hK
    simp only [] at hK
    rw [zwi (x := dep + 1) (by omega) (by omega)]
    have hM2 := q_on hp (q_post_refl jd μ) ⟨hlt, by omega⟩
    have hpM2 := q_pre_post hp hM2 (by omega) (by simp; omega)
    have e6 : zU μ 12 6 (zw (μ 12 6 + 1)) 12 6 = μ 12 6 + 1 := hM2.2.2.1
    have fx := hs (μ 12 6 + 1) (by omega)
    refine hsub dt _ _ hpM2 (fun M3 hq3 => ?_)
    rw [e6] at hq3 ⊢
    generalize hsr : sub (μ 12 6 + 1) = r at *
    obtain ⟨a3, c3, ok3⟩ := r
    have hM3 := q_post_trans hp6.1 hM2 hq3
    rw [List.nil_append] at hM3
    simp only [] at fx hM3
    have hpM3 := q_pre_post hp hM3 (by omega) (by omega)
    have at3 : M3 12 6 = a3 := hM3.2.2.1
    have lim3 : M3 12 7 = m := hpM3.1.1
    cases ok3
    · exact zb0 (hK M3 hM3)
    · simp only [] at hK
      refine zb1 ⟨fun q4 => ?_, fun q4 => ⟨by omega, fun q5 => ?_, fun q5 => ?_⟩⟩
      · rw [if_neg (by rw [hH a3 (by omega)]; omega)] at hK
        exact hK M3 hM3
      · rw [at3] at q5
        rw [if_pos ((q_at hpM3 (by omega) 41 (by omega)).1 q5)] at hK
        exact hK _ (q_on hp hM3 ⟨by omega, by omega⟩)
      · rw [at3] at q5
        rw [if_neg (fun hh => q5 ((q_at hpM3 (by omega) 41 (by omega)).2 hh))] at hK
        exact hK M3 hM3
  · have q' : ¬ (48 ≤ H (μ 12 6) ∧ H (μ 12 6) ≤ 57) := fun hh => q (qd.1.2 hh)
    have dt : deep = false := by rw [hdeep]; simp; omega
    rw [if_neg q', if_pos (q40.1 q2), dt] at hK
    exact hK μ (q_post_refl jd μ)
theorem c_lev4 {dep : Int} {f : Int → zRes} (hd : 1 ≤ d) (ht : q_call g (d - 1) 50 [.inr (.inr ((0, 6), 12)), .inl dep] H m jd f) : q_call g d 49 [.inr (.inr ((0, 6), 12)), .inl 4, .inl dep] H m jd f := by
  intro μ K hp hK
  refine sX6_readLevel ⟨fun q => by omega, fun _ => ⟨by omega, ht μ _ hp (fun μ' hq => ?_)⟩⟩
  have h := hK μ' hq
  cases hb : (f (μ 12 6)).2.2
  · rw [hb] at h
    exact zb0 h
  · rw [hb] at h
    exact zb1 h
/-- readLevel(4 - r % 5, 5 - r / 5) -/
theorem c_read (hH : ∀ i, m ≤ i → H i = -1) (hm : 0 ≤ m) : ∀ (r : Nat), r < 30 → ∀ d, 10 * (r / 5 + 1) + r % 5 ≤ d → q_call g d 49 [.inr (.inr ((0, 6), 12)), .inl (4 - ((r % 5 : Nat) : Int)), .inl (5 - ((r / 5 : Nat) : Int))] H m jd (p_r H r)
  | 0, _, d, hd => by
    have h0 : p_fit H m (fun a => (a, [], false)) := fun a ha => ⟨by simp only []; omega, ha.2, by simp only [List.length_nil]; omega, fun q => by cases q⟩
    exact c_lev4 (by omega) (c_readThing1 (sub := fun a => (a, [], false)) (deep := false) (by omega) h0 (c_readCore (dep := 5) (by omega) (by omega) (by simp) h0 (fun q => by cases q)))
  | r + 1, hr, d, hd => by
    have ih := c_read hH hm r (by omega)
    have hfit := p_r_fit (m := m) hH r
    by_cases q : (r + 1) % 5 = 0
    · have e0 : p_r H (r + 1) = p_thing H (p_r H r) true 41 := if_pos q
      have e1 : (4 : Int) - (((r + 1) % 5 : Nat) : Int) = 4 := by omega
      have e2 : (4 : Int) - ((r % 5 : Nat) : Int) = 0 := by omega
      have e3 : (5 : Int) - ((r / 5 : Nat) : Int) = 5 - (((r + 1) / 5 : Nat) : Int) + 1 := by omega
      rw [e2, e3] at ih
      rw [e0, e1]
      exact c_lev4 (by omega) (c_readThing1 (deep := true) (by omega) hfit (c_readCore (by omega) (by omega) (by simp; omega) hfit (fun _ => ih _ (by omega))))
    · have e0 : p_r H (r + 1) = p_level H (4 - (((r + 1) % 5 : Nat) : Int)) (p_r H r) := if_neg q
      have e2 : (4 : Int) - ((r % 5 : Nat) : Int) = 4 - (((r + 1) % 5 : Nat) : Int) + 1 := by omega
      have e3 : (r + 1) / 5 = r / 5 := by omega
      rw [e2] at ih
      rw [e0, e3]
      exact c_level (by omega) (by omega) hfit (ih (d - 1) (by omega))
end
