-- needs 81
/-! order: both sides' calls -/
theorem z_sub {x : Int} {I : Nat} (hx : zI32 x) (hI : I < 4096) (h : zand x (zxor (I : Int) (-1)) = 0) : ∃ m : Nat, m < 4096 ∧ x = (m : Int) ∧ ∀ i, m.testBit i = true → I.testBit i = true := by
  have key : ∀ i, i < 32 → zbit x i = true → I.testBit i = true := by
    intro i hi hb
    have : zbit (zand x (zxor (I : Int) (-1))) i = zbit 0 i := by rw [h]
    rw [zbit_and, zbit_not _ _ hi, zbit_nat _ _ hi, zbit_0, hb] at this
    simpa using this
  refine ⟨f_bits (fun i => zbit x i) 12, f_bits_lt _ 12, zb_ext hx (zI32_nat (Nat.lt_trans (f_bits_lt _ 12) (by decide))) (fun i hi => ?_), fun i hi => ?_⟩
  · rw [zbit_nat _ _ hi, f_bits_test]
    by_cases q : i < 12
    · rw [decide_eq_true q, Bool.true_and]
    · rw [decide_eq_false q, Bool.false_and]
      cases hb : zbit x i with
      | false => rfl
      | true =>
        have := key i hi hb
        rw [Nat.testBit_lt_two_pow (Nat.lt_of_lt_of_le hI (Nat.pow_le_pow_right (n := 2) (by omega) (show 12 ≤ i by omega)))] at this
        cases this
  · rw [f_bits_test] at hi
    simp at hi
    exact key i (by omega) hi.2
def o_order (S : zS) (x : Int) : Int × zS := if 0 < x ∧ zand x (zxor (f_ins S.1 : Int) (-1)) = 0 ∧ fr_c x.toNat 12 ≤ 5 then (match or_go 6 S.1 x.toNat 0 [] none with
  | none => (-2, S)
  | some q => (q.1, sR S q.2)) else (-1, S)
theorem or_ins {Y : zM} {m : Nat} (hW : y_W Y) (hm : m < 4096) (h : ∀ i, m.testBit i = true → (f_ins Y).testBit i = true) : or_in Y m := by
  refine ⟨hm, fun i hi => ?_⟩
  have hi12 := or_12 hm hi
  have := h i hi
  unfold f_ins at this
  rw [f_bits_test] at this
  simp at this
  have w := (hW.2.2.2 (i : Int) (by omega)).2.2.2
  rcases Int.lt_or_le (i : Int) (Y 13 3) with q | q
  · exact q
  · exact absurd (w q).1 this.2
section
variable {g : zG} {d : Nat} {K : Option zV → zM → Prop} {μ μ' Y : zM} {s : Nat} {S : zS} {nn x : Int}
theorem M_order (hd : 340 ≤ d) (hx : zI32 x) (hC : mS μ S) (hI : iS nn S) (h : ∀ μ', zEd μ' μ → mS μ' (o_order S x).2 → K (some (.inl (o_order S x).1)) μ') : zCall g d 222 [.inr (.inr ((0, 12), 119)), .inl x] μ K := by
  have w := hI.env
  have nw := hI.now
  have hC0 : mS (zU μ 119 33 0) S := hC.thr
  have hE : zEd (zU μ 119 33 0) μ := (zEd.refl μ).u (by omega)
  refine sX12_order ⟨fun q => ?_, fun q => ⟨by omega, ?_⟩⟩
  · unfold o_order at h
    rw [if_neg (fun hh => by omega)] at h
    exact h _ hE hC0
  · generalize zU μ 119 33 0 = N at *
    unfold o_order at h
    refine m_inStalls (co := S.1 14) (cn := S.1 15 0) (hC0.W hI) (zi ?_)
    rw [hC0.1.1]
    refine ⟨fun q2 => ?_, fun q2 => ?_⟩
    · rw [if_neg (fun hh => q2 hh.2.1)] at h
      exact h N hE hC0
    · obtain ⟨m, m4, rfl, hsub⟩ := z_sub hx f_ins_lt q2
      have hin := or_ins hI.W m4 hsub
      rw [show ((m : Int)).toNat = m from by omega] at h
      refine j_bcn m4 (zi ⟨fun q3 => ?_, fun q3 => ?_⟩)
      · rw [if_pos ⟨q, q2, by omega⟩] at h
        have hC1 : mS (zU N 119 48 (-1)) S := hC0.scr (fun j _ hj => zU_off j hj) (fun i hi => zU_ne (by unfold z_scs at hi; omega))
        have z42 : zU N 119 48 (-1) 119 42 = 0 := by rw [zU_ne (by omega)]; exact hC0.1.2.2
        refine m_orderFrom (co := S.1 14) (cn := S.1 15 0) 6 (d - 1) _ S.1 m 0 [] none _ (by omega) hC1.1.1 hI.W hC1.1.2.1 hin (by omega) (by omega) (zli_nil _) (by simp) zU_eq (by omega) (by omega) (fun M hM hvM m42 _ _ hA => zn ?_)
        have hCM : mS M (sY S S.1) := hC1.yard ⟨hvM, zRu_s hM hC1.1.2.1, by rw [m42, z42]⟩ (fun j hj hs => by unfold z_scm at hs; exact hM.1 j (by omega)) (fun i hi hs => by unfold z_scs at hs; exact hM.2 i (by omega))
        have hCM : mS M S := hCM
        have hEM : zEd M μ := fun j hj => by rw [hM.1 j (by omega), zU_off j (by omega)]; exact hE j hj
        have hlen := or_len 6 S.1 m 0 [] none (fr_c m 12) hin (fun q hq => by cases hq) (by simp)
        generalize or_go 6 S.1 m 0 [] none = a at *
        cases a with
        | none =>
          have hA : M 119 48 = -1 := hA
          exact ⟨fun q => absurd hA q, fun _ => h M hEM hCM⟩
        | some q =>
          have hA2 := hA
          obtain ⟨a1, a2, a3, a4⟩ := hA2
          have := hlen q rfl
          refine ⟨fun _ => m_tellBest (t := q.1) (r := q.2) hA (by omega) (by omega) (fun Q hQ hr => zn ?_), fun q2 => by omega⟩
          rw [hQ.2 49 (by omega), a1]
          exact h Q (fun j hj => by rw [hQ.1 j (by omega)]; exact hEM j hj) (hCM.row (fun j _ hj => hQ.1 j hj) (fun i _ hi => hQ.2 i hi) hr)
      · rw [if_neg (fun hh => by omega)] at h
        exact h N hE hC0
theorem C_order (hd : 40 ≤ d) (hx : zI32 x) (hC : cS μ S) (hI : iS nn S) (h : ∀ μ', zEc μ' μ → cS μ' (o_order S x).2 → K (some (.inl (o_order S x).1)) μ') : zCall g d 128 [.inr (.inr ((0, 11), 0)), .inl x] μ K := by
  have w := hI.env
  have nw := hI.now
  have ev := hC.env
  have hv := hC.1.1
  unfold o_order at h
  by_cases q2 : zand x (zxor (f_ins S.1 : Int) (-1)) = 0
  · obtain ⟨m, m4, rfl, hsub⟩ := z_sub hx f_ins_lt q2
    have hin := or_ins hI.W m4 hsub
    rw [show ((m : Int)).toNat = m from by omega] at h
    have m0 : m = 0 → fr_c m 12 = 0 := fun q => by rw [q]; decide
    have m1 : fr_c m 12 = 0 → m = 0 := or_0 m4
    refine sX11_order ⟨by omega, j_bcn m4 (zi ⟨fun q3 => ?_, fun q3 => ⟨fun q4 => ?_, fun q4 => c_inStalls (zi ?_)⟩⟩)⟩
    · rw [if_neg (fun hh => by have := m1 (by omega); omega)] at h
      exact h μ (zEc.refl μ) hC
    · rw [if_neg (fun hh => by omega)] at h
      exact h μ (zEc.refl μ) hC
    · rw [hv]
      refine ⟨fun _ => ?_, fun q5 => absurd q2 q5⟩
      rw [if_pos ⟨by rcases Nat.eq_zero_or_pos m with q | q
                     · have := m0 q; omega
                     · omega, q2, by omega⟩] at h
      have o26 : ∀ j, ¬ j = 26 → zU μ 26 5 1000000000 j = μ j := fun j hj => zU_off j hj
      have A0 : zU μ 26 5 1000000000 26 5 = 1000000000 := zU_eq
      refine sX9_bestOrder (s1 := 20) ⟨by omega, ?_⟩
      generalize zU μ 26 5 1000000000 = N at *
      have rN : zrl N := zrl_same hC.1.2.1 (o26 12 (by omega))
      have vN : vC N 20 = S.1 := by rw [← hv]; exact vC_same hC.1.2.1 (fun j _ _ => o26 j (by omega)) (fun j _ _ => o26 j (by omega))
      refine c_takeFrom (by omega) (by omega) (by omega) (by omega) rN (fun M hM hvM => zn ?_)
      rw [vN] at hvM
      refine c_tryOrders (L := fr_c m 12) (by omega) 6 (d - 1 - 1) M S.1 m 0 [] none _ (by omega) hvM (zrl_same rN (hM 12 (by omega))) hI.W hI.R hin (by omega) (by omega) (by simp) (zli_nil _) (show M 26 5 = 1000000000 by rw [hM 26 (by omega)]; exact A0) (fun hb => hb) (by omega) (by omega) (fun Q hQ _ hA => zn ?_)
      have eQ : ∀ j, ¬ (j = 16 ∨ j = 17 ∨ j = 25 ∨ j = 26 ∨ j = 28 ∨ j = 29 ∨ (32 ≤ j ∧ j ≤ 61)) → Q j = μ j := fun j hj => by
        rw [hQ j (by simp only [List.length_nil]; omega), hM j (by omega), o26 j (by omega)]
      have hCQ : cS Q S := hC.scr (fun j hj => eQ j (by unfold z_scr at hj; omega))
      generalize or_go 6 S.1 m 0 [] none = a at *
      cases a with
      | none =>
        have hA : Q 26 5 = 1000000000 := hA
        exact ⟨fun q => absurd hA q, fun _ => h Q (fun j hj => eQ j (by omega)) hCQ⟩
      | some r =>
        obtain ⟨a1, a2, a3, a4⟩ := hA
        refine ⟨fun _ => c_emptyR (fun V hV hr => zn ?_), fun q => by omega⟩
        have lp : ∀ (suf pre : List Int) (U : zM), pre ++ suf = r.2 → zE18 U Q → cR U pre → zT g (d - 1) mX9_bestOrder (zIi fun r6 μ5 => K (some (.inl r6)) μ5) 44 [some (.inr (.inr ((0, 9), 26))), none, some (.inl (m : Int)), some (.inl (pre.length : Int))] [] U := by
          intro suf
          induction suf with
          | nil =>
            intro pre U hp hU hrU
            rw [List.append_nil] at hp
            subst hp
            refine sX9_bestOrder_44 ⟨by omega, j_bcn m4 (zi ⟨fun _ => ?_, fun q => by omega⟩)⟩
            show K (some (.inl (U 26 5))) U
            rw [hU 26 (by omega), a1]
            exact h U (fun j hj => by rw [hU j (by omega), eQ j (by omega)]) (hCQ.row (fun j _ hj => hU j hj) hrU)
          | cons v suf ih =>
            intro pre U hp hU hrU
            have hl : pre.length + (suf.length + 1) = r.2.length := by rw [← hp]; simp
            have hv : Q 29 (pre.length : Int) = v := a4 pre.length v (by rw [← hp]; simp)
            refine sX9_bestOrder_44 ⟨by omega, j_bcn m4 (zi ⟨fun q => by omega, fun _ => ⟨by omega, ?_⟩⟩)⟩
            rw [hU 29 (by omega), hv]
            refine c_tellR hrU (by omega) (fun T hT hrT => zn ?_)
            rw [zw_suc (by omega)]
            have := ih (pre ++ [v]) T (by rw [← hp]; simp) (hT.trans hU) hrT
            rw [show (pre ++ [v]).length = pre.length + 1 from by simp] at this
            exact this
        exact lp r.2 [] V rfl hV hr
  · rw [if_neg (fun hh => q2 hh.2.1)] at h
    refine sX11_order ⟨by omega, j_bc (zi ⟨fun q3 => h μ (zEc.refl μ) hC, fun q3 => ⟨fun q4 => h μ (zEc.refl μ) hC, fun q4 => c_inStalls (zi ?_)⟩⟩)⟩
    rw [hv]
    exact ⟨fun q5 => absurd q5 q2, fun _ => h μ (zEc.refl μ) hC⟩
end
