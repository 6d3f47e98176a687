-- needs 50 51 52 53 54 55 56 57 58 59 60 61 62 63 64
/-! operations: sign, soonest -/
theorem z_ush_all : ∀ k : Nat, k < 32 → (((Int32.ofInt (k : Int)).toUInt32 &&& Int32.toUInt32 31).toBitVec % 32).toNat = k := by decide +kernel
theorem zv_ushr (x : Int) (k : Nat) (hk : k < 32) : BitVec.ofInt 32 (zushr x (k : Int)) = BitVec.ofInt 32 x >>> k := by
  have h := pk_ushr (Int32.ofInt x) (Int32.ofInt (k : Int)) k (z_ush_all k hk)
  show BitVec.ofInt 32 ((((Int32.ofInt x).toUInt32 >>> ((Int32.ofInt (k : Int)).toUInt32 &&& Int32.toUInt32 31)).toInt32.toBitVec).toInt) = _
  rw [BitVec.ofInt_toInt]
  apply BitVec.eq_of_toNat_eq
  rw [h, BitVec.toNat_ushiftRight, Nat.shiftRight_eq_div_pow]
  rfl
/-- a byte of a number, as both sides keep it -/
theorem z_by (v : Int) (k : Nat) (hk : k ≤ 24) : ∃ b : Nat, b < 256 ∧ zand (zushr v (k : Int)) 255 = (b : Int) ∧ zi2b (zshr v (k : Int)) = if (b : Int) < 128 then (b : Int) else (b : Int) - 256 := by
  refine ⟨((BitVec.ofInt 32 v >>> k).setWidth 8).toNat, ((BitVec.ofInt 32 v >>> k).setWidth 8).isLt, ?_, ?_⟩
  · have hb : ((BitVec.ofInt 32 v >>> k).setWidth 8).toNat < 256 := ((BitVec.ofInt 32 v >>> k).setWidth 8).isLt
    refine zb_ext (zI32_and _ _) (zI32_nat (by omega)) (fun i hi => ?_)
    rw [zbit_and, zbit_nat _ _ hi, BitVec.testBit_toNat, BitVec.getLsbD_setWidth]
    have h255 : zbit 255 i = decide (i < 8) := by
      have := zbit_nat 255 i hi
      rw [show ((255 : Nat) : Int) = 255 from rfl] at this
      rw [this, show (255 : Nat) = 2 ^ 8 - 1 from rfl, Nat.testBit_two_pow_sub_one]
    rw [h255]
    unfold zbit
    rw [zv_ushr v k (by omega), Bool.and_comm]
  · have e1 : zi2b (zshr v (k : Int)) = ((BitVec.ofInt 32 v >>> k).setWidth 8).toInt := by
      have e2 : (BitVec.ofInt 32 (zshr v (k : Int))).signExtend 8 = (BitVec.ofInt 32 v >>> k).setWidth 8 := by
        apply BitVec.eq_of_getLsbD_eq
        intro i hi
        rw [zv_shr v (e := (k : Int)) (by omega), BitVec.getLsbD_signExtend, BitVec.getLsbD_setWidth, BitVec.getLsbD_ushiftRight, BitVec.getLsbD_sshiftRight]
        simp [hi, show i < 32 from by omega, show k + i < 32 from by omega]
      show ((Int32.ofInt (zshr v (k : Int))).toInt8.toInt32).toInt = _
      rw [Int8.toInt_toInt32]
      show ((Int32.ofInt (zshr v (k : Int))).toInt8.toBitVec).toInt = _
      rw [Int32.toBitVec_toInt8]
      show ((BitVec.ofInt 32 (zshr v (k : Int))).signExtend 8).toInt = _
      rw [e2]
    rw [e1, BitVec.toInt_eq_toNat_cond]
    split <;> split <;> omega
section
variable {g : zG} {d : Nat} {K : Option zV → zM → Prop} {μ μ' Y X N : zM} {s m i : Nat} {r : List Int} {S : zS} {co : Int → Int} {cn n x y z b v e p t k f st : Int}
def b_by (v k : Int) : Int := zand (zushr v k) 255
def o_sign (S : zS) (v : Int) : Int × zS := if S.2.1.length + 4 ≤ 60 then ((S.2.1.length : Int) + 4, sT S (S.2.1 ++ [b_by v 24] ++ [b_by v 16] ++ [b_by v 8] ++ [b_by v 0])) else (-1, S)
theorem C_sign (hd : 2 ≤ d) (hC : cS μ S) (hI : iS n S) (h : ∀ μ', zEc μ' μ → cS μ' (o_sign S v).2 → K (some (.inl (o_sign S v).1)) μ') : zCall g d 114 [.inr (.inr ((0, 11), 0)), .inl v] μ K := by
  have hT : cT μ S.2.1 := hC.2.1
  have hl : S.2.1.length ≤ 60 := hI.2.2.1.1
  have h1 := hT.1
  unfold o_sign at h
  refine sX11_sign ⟨by omega, sX6_append ?_⟩
  rw [zwi (x := μ 12 1 + 4) (by omega) (by omega)]
  refine ⟨fun q => ?_, fun q => zi ?_⟩
  · rw [if_pos (by omega)] at h
    have step : ∀ (M : zM) (t : List Int) (sh : Int), cY M S.1 → cT M t → t.length < 60 → (∀ j, ¬ (j = 12 ∨ j = 13) → M j = μ j) → cY (zU (zU M 13 (M 12 1) (b_by v sh)) 12 1 (M 12 1 + 1)) S.1 ∧ cT (zU (zU M 13 (M 12 1) (b_by v sh)) 12 1 (M 12 1 + 1)) (t ++ [b_by v sh]) ∧ ∀ j, ¬ (j = 12 ∨ j = 13) → zU (zU M 13 (M 12 1) (b_by v sh)) 12 1 (M 12 1 + 1) j = μ j := by
      intro M t sh hY ht hlt hM
      refine ⟨?_, ⟨?_, ?_⟩, fun j hj => by rw [zU_off j (by omega), zU_off j (by omega), hM j hj]⟩
      · have a1 : cY (zU M 13 (M 12 1) (b_by v sh)) S.1 := hY.same (fun j hj => zU_off j (by omega))
        exact a1.u12 (by omega)
      · rw [zU_eq, ht.1]; simp
      · rw [zU_off 13 (by omega), zU_row, ht.1]
        exact zli_snoc ht.2
    have hs : ∀ (M : zM) (t : List Int) (sh : Int), cT M t → t.length < 60 → (0 ≤ sh ∧ sh ≤ 24) → zT g (d - 1) mX6_append (zIi fun r2 μ1 => K (some (.inl r2)) μ1) 16 [some (.inr (.inr ((0, 6), 12))), some (.inl v), some (.inl (sh - 8))] [] (zU (zU M 13 (M 12 1) (b_by v sh)) 12 1 (M 12 1 + 1)) → zT g (d - 1) mX6_append (zIi fun r2 μ1 => K (some (.inl r2)) μ1) 16 [some (.inr (.inr ((0, 6), 12))), some (.inl v), some (.inl sh)] [] M := by
      intro M t sh ht hlt hsh hn
      have := ht.1
      refine sX6_append_16 ⟨fun q => by omega, fun _ => ⟨by omega, ?_⟩⟩
      rw [zwi (x := M 12 1 + 1) (by omega) (by omega), zwi (x := sh + -8) (by omega) (by omega), show sh + -8 = sh - 8 from by omega]
      exact hn
    obtain ⟨y1, t1, o1⟩ := step μ S.2.1 24 hC.1 hT (by omega) (fun _ _ => rfl)
    refine hs μ S.2.1 24 hT (by omega) (by omega) ?_
    generalize zU (zU μ 13 (μ 12 1) (b_by v 24)) 12 1 (μ 12 1 + 1) = M1 at *
    obtain ⟨y2, t2, o2⟩ := step M1 _ 16 y1 t1 (by simp; omega) o1
    refine hs M1 _ 16 t1 (by simp; omega) (by omega) ?_
    generalize zU (zU M1 13 (M1 12 1) (b_by v 16)) 12 1 (M1 12 1 + 1) = M2 at *
    obtain ⟨y3, t3, o3⟩ := step M2 _ 8 y2 t2 (by simp; omega) o2
    refine hs M2 _ 8 t2 (by simp; omega) (by omega) ?_
    generalize zU (zU M2 13 (M2 12 1) (b_by v 8)) 12 1 (M2 12 1 + 1) = M3 at *
    obtain ⟨y4, t4, o4⟩ := step M3 _ 0 y3 t3 (by simp; omega) o3
    refine hs M3 _ 0 t3 (by simp; omega) (by omega) ?_
    generalize zU (zU M3 13 (M3 12 1) (b_by v 0)) 12 1 (M3 12 1 + 1) = M4 at *
    refine sX6_append_16 ⟨fun _ => zi ?_, fun q => by omega⟩
    have l4 := t4.1
    rw [show M4 12 1 = (S.2.1.length : Int) + 4 from by rw [l4]; simp]
    exact h M4 (fun j hj => o4 j (by omega)) (hC.text y4 (fun j hj _ => o4 j hj) t4)
  · rw [if_neg (by omega)] at h
    exact h μ (zEc.refl μ) hC
theorem M_sign (hd : 2 ≤ d) (hC : mS μ S) (hI : iS n S) (h : ∀ μ', zEd μ' μ → mS μ' (o_sign S v).2 → K (some (.inl (o_sign S v).1)) μ') : zCall g d 178 [.inr (.inr ((0, 12), 119)), .inl v] μ K := by
  have hl : S.2.1.length ≤ 60 := hI.2.2.1.1
  have hT0 : mT μ S.2.1 := hC.2.1
  have h10 := hT0.1
  have hC0 : mS (zU μ 119 33 0) S := hC.thr
  have hE : zEd (zU μ 119 33 0) μ := (zEd.refl μ).u (by omega)
  unfold o_sign at h
  refine sX12_sign ?_
  rw [zwi (x := μ 119 30 + 4) (by omega) (by omega)]
  generalize zU μ 119 33 0 = N at *
  have hT : mT N S.2.1 := hC0.2.1
  have h1 := hT.1
  refine ⟨fun q => ?_, fun q => ?_⟩
  · rw [if_pos (by omega)] at h
    have step : ∀ (M : zM) (t : List Int) (k : Nat), k ≤ 24 → mT M t → (∀ j, ¬ (j = 119 ∨ j = 139) → M j = N j) → (∀ i, ¬ i = 30 → M 119 i = N 119 i) → mT (zU (zU M 119 30 (M 119 30 + 1)) 139 (M 119 30) (zi2b (zshr v (k : Int)))) (t ++ [b_by v (k : Int)]) ∧ (∀ j, ¬ (j = 119 ∨ j = 139) → zU (zU M 119 30 (M 119 30 + 1)) 139 (M 119 30) (zi2b (zshr v (k : Int))) j = N j) ∧ ∀ i, ¬ i = 30 → zU (zU M 119 30 (M 119 30 + 1)) 139 (M 119 30) (zi2b (zshr v (k : Int))) 119 i = N 119 i := by
      intro M t k hk ht hM hM2
      obtain ⟨b, hb, e1, e2⟩ := z_by v k hk
      refine ⟨⟨?_, fun a w ha => ?_⟩, fun j hj => by rw [zU_off j (by omega), zU_off j (by omega), hM j hj], fun i hi => by rw [zU_ne (by omega), zU_ne (by omega), hM2 i hi]⟩
      · rw [zU_ne (by omega), zU_eq, ht.1]; simp
      · have htl := ht.1
        by_cases q2 : a < t.length
        · rw [List.getElem?_append_left q2] at ha
          rw [zU_ne (by omega), zU_off 139 (by omega)]
          exact ht.2 a w ha
        · rw [List.getElem?_append_right (by omega)] at ha
          have hk0 : a - t.length = 0 := by
            rcases Nat.eq_zero_or_pos (a - t.length) with h0 | h0
            · exact h0
            · rw [List.getElem?_eq_none (by simp; omega)] at ha; cases ha
          rw [hk0] at ha
          simp at ha
          have : (a : Int) = M 119 30 := by omega
          rw [this, zU_eq, e2, ← ha]
          unfold b_by
          rw [e1]
    have hs : ∀ (M : zM) (t : List Int) (k : Nat), mT M t → t.length < 60 → k ≤ 3 → zT g d mX12_sign K 20 [some (.inr (.inr ((0, 12), 119))), some (.inl v), some (.inl ((k : Int) - 1))] [] (zU (zU M 119 30 (M 119 30 + 1)) 139 (M 119 30) (zi2b (zshr v ((8 * k : Nat) : Int)))) → zT g d mX12_sign K 20 [some (.inr (.inr ((0, 12), 119))), some (.inl v), some (.inl (k : Int))] [] M := by
      intro M t k ht hlt hk hn
      have := ht.1
      obtain ⟨b, hb, e1, e2⟩ := z_by v (8 * k) (by omega)
      have hz : zw (8 * (k : Int)) = ((8 * k : Nat) : Int) := by rw [zwi (by omega) (by omega)]; omega
      refine sX12_sign_20 ⟨fun q => by clear hz; omega, fun _ => ?_⟩
      rw [hz]
      clear hz
      rw [zwi (x := M 119 30 + 1) (by omega) (by omega), zwi (x := (k : Int) + -1) (by omega) (by omega), show (k : Int) + -1 = (k : Int) - 1 from by omega]
      refine ⟨by omega, ?_, hn⟩
      rw [e2]
      split <;> omega
    obtain ⟨t1, o1, p1⟩ := step N S.2.1 24 (by omega) hT (fun _ _ => rfl) (fun _ _ => rfl)
    refine hs N S.2.1 3 hT (by omega) (by omega) ?_
    show zT g d mX12_sign K 20 [some (.inr (.inr ((0, 12), 119))), some (.inl v), some (.inl ((2 : Nat) : Int))] [] (zU (zU N 119 30 (N 119 30 + 1)) 139 (N 119 30) (zi2b (zshr v ((24 : Nat) : Int))))
    generalize zU (zU N 119 30 (N 119 30 + 1)) 139 (N 119 30) (zi2b (zshr v ((24 : Nat) : Int))) = M1 at *
    obtain ⟨t2, o2, p2⟩ := step M1 _ 16 (by omega) t1 o1 p1
    refine hs M1 _ 2 t1 (by simp; omega) (by omega) ?_
    show zT g d mX12_sign K 20 [some (.inr (.inr ((0, 12), 119))), some (.inl v), some (.inl ((1 : Nat) : Int))] [] (zU (zU M1 119 30 (M1 119 30 + 1)) 139 (M1 119 30) (zi2b (zshr v ((16 : Nat) : Int))))
    generalize zU (zU M1 119 30 (M1 119 30 + 1)) 139 (M1 119 30) (zi2b (zshr v ((16 : Nat) : Int))) = M2 at *
    obtain ⟨t3, o3, p3⟩ := step M2 _ 8 (by omega) t2 o2 p2
    refine hs M2 _ 1 t2 (by simp; omega) (by omega) ?_
    show zT g d mX12_sign K 20 [some (.inr (.inr ((0, 12), 119))), some (.inl v), some (.inl ((0 : Nat) : Int))] [] (zU (zU M2 119 30 (M2 119 30 + 1)) 139 (M2 119 30) (zi2b (zshr v ((8 : Nat) : Int))))
    generalize zU (zU M2 119 30 (M2 119 30 + 1)) 139 (M2 119 30) (zi2b (zshr v ((8 : Nat) : Int))) = M3 at *
    obtain ⟨t4, o4, p4⟩ := step M3 _ 0 (by omega) t3 o3 p3
    refine hs M3 _ 0 t3 (by simp; omega) (by omega) ?_
    show zT g d mX12_sign K 20 [some (.inr (.inr ((0, 12), 119))), some (.inl v), some (.inl (-1))] [] (zU (zU M3 119 30 (M3 119 30 + 1)) 139 (M3 119 30) (zi2b (zshr v ((0 : Nat) : Int))))
    generalize zU (zU M3 119 30 (M3 119 30 + 1)) 139 (M3 119 30) (zi2b (zshr v ((0 : Nat) : Int))) = M4 at *
    refine sX12_sign_20 ⟨fun _ => ?_, fun q => by omega⟩
    have l4 := t4.1
    rw [show M4 119 30 = (S.2.1.length : Int) + 4 from by rw [l4]; simp]
    exact h M4 (fun j hj => by rw [o4 j (by omega), hE j hj]) (hC0.text (fun j hj _ => o4 j hj) (fun i hi _ => p4 i hi) t4)
  · rw [if_neg (by omega)] at h
    exact h N hE hC0
/-- one is freed, and all put back -/
theorem m_freeU (hd : 325 ≤ d) (hC : mS N S) (hI : iS n S) (he : 0 ≤ e ∧ e < S.1 13 3) (hin : ¬ S.1 2 e = -1)
    (h1 : f_frees S.1 e = true → ∀ M : zM, M 119 43 = f_to S.1 e → M 119 44 = f_am S.1 e → M 119 45 = f_om S.1 e → (∀ (d' : Nat) (K' : Option zV → zM → Prop), 1 ≤ d' → (∀ P : zM, mS P S → zEd P N → (∀ i, ¬ z_scs i → P 119 i = N 119 i) → P 119 43 = f_to S.1 e → P 119 44 = f_am S.1 e → P 119 45 = f_om S.1 e → K' none P) → zCall g d' 213 [.inr (.inr ((0, 12), 119)), .inl 0] M K') → K (some (.inl 1)) M)
    (h0 : f_frees S.1 e = false → ∀ M : zM, mS M S → zEd M N → K (some (.inl 0)) M) : zCall g d 216 [.inr (.inr ((0, 12), 119)), .inl e] N K := by
  have w := hI.env
  have nw := hI.now
  have ev := hC.env
  have hv := hC.1.1
  refine m_freeNow (co := S.1 14) (cn := S.1 15 0) (by omega) (hC.W hI) hC.1.2.1 (by omega) (by rw [(hC.en (by omega)).1]; exact hin) (by omega) (by rw [hC.1.2.2]; omega) (fun hfr M hM hvM h43 h44 h45 h42 hP hh => ?_) (fun hfr M hM hvM h42 h141 => ?_)
  · rw [hv] at hfr hvM h43 h44 h45 h42 hh
    have wf := w_free hI.W (e := e) (by omega) hin hfr (by omega)
    have hml : (f_mv S.1 e).length ≤ 2 := by unfold f_mv; split <;> simp
    rw [hC.1.2.2] at h42
    refine h1 hfr M h43 h44 h45 (fun d' K' hd' hK' => ?_)
    refine m_undoC (m_undo (x := 0) (co := S.1 14) (cn := S.1 15 0) hd' (f_mv S.1 e) S.1 M (by rw [hvM]; exact wf.1) ⟨by omega, by rw [h42], by omega⟩ (by rw [hvM]; exact hh) (fun P hP h0 _ hvP => ?_))
    have hPN : ∀ j, ¬ (j = 119 ∨ j = 123 ∨ j = 124 ∨ j = 130 ∨ j = 141) → P j = N j := fun j hj => by rw [hP.1 j hj, hM.1 j hj]
    have hPs : ∀ i, ¬ (i = 14 ∨ i = 15 ∨ (34 ≤ i ∧ i ≤ 40) ∨ (42 ≤ i ∧ i ≤ 45)) → P 119 i = N 119 i := fun i hi => by rw [hP.2 i (by omega), hM.2 i hi]
    have hCP : mS P (sY S S.1) := hC.yard ⟨hvP, by rw [hPN 138 (by omega), hPs 28 (by omega)]; exact hC.1.2.1, h0⟩ (fun j hj hs => by unfold z_scm at hs; exact hPN j (by omega)) (fun i hi hs => by unfold z_scs at hs; exact hPs i (by omega))
    have e14 : ∀ i, (i = 14 ∨ i = 15) → P 119 i = N 119 i := by
      have a := mS.env (S := sY S S.1) hCP
      rintro i (rfl | rfl)
      · rw [a.2.2.2.2.1, ev.2.2.2.2.1]; rfl
      · rw [a.2.2.2.2.2, ev.2.2.2.2.2]; rfl
    refine hK' P hCP (fun j hj => hPN j (by omega)) (fun i hi => ?_) (by rw [hP.2 43 (by omega)]; exact h43) (by rw [hP.2 44 (by omega)]; exact h44) (by rw [hP.2 45 (by omega)]; exact h45)
    unfold z_scs at hi
    by_cases q : i = 14 ∨ i = 15
    · exact e14 i q
    · by_cases q2 : i = 42
      · subst q2; rw [h0, hC.1.2.2]
      · exact hPs i (by omega)
  · rw [hv] at hfr hvM
    exact h0 hfr M (hC.yard ⟨hvM, by rw [hM.1 138 (by omega), hM.2 28 (by omega)]; exact hC.1.2.1, by rw [h42]; exact hC.1.2.2⟩ (fun j hj hs => by unfold z_scm at hs; exact hM.1 j (by omega)) (fun i hi hs => by unfold z_scs at hs; exact hM.2 i (by omega))) (fun j hj => hM.1 j (by omega))
/-- what it costs to have one on the road; below 0: it can't -/
def f_cost (Y : zM) (e : Int) : Int := if Y 2 e = -1 then 0 else if f_frees Y e = true then f_am Y e + f_om Y e else -2
def f_so (Y X : zM) (t : Int) : Nat → Int × Int
  | 0 => (-2, 0)
  | e + 1 => if f_fit Y X (e : Int) t = true ∧ 0 ≤ f_cost Y (e : Int) ∧ ((f_so Y X t e).1 < 0 ∨ f_cost Y (e : Int) < (f_so Y X t e).2) then ((e : Int), f_cost Y (e : Int)) else f_so Y X t e
def o_soonest (S : zS) (t : Int) : Int × zS := if 0 ≤ t ∧ t < zX S 8 0 then (if (f_so S.1 (zX S) t (S.1 13 3).toNat).1 < 0 then (-2, S) else ((f_so S.1 (zX S) t (S.1 13 3).toNat).1, sR S [(f_so S.1 (zX S) t (S.1 13 3).toNat).2])) else (-1, S)
theorem f_cost_b (hW : y_W Y) (hn : Y 5 1 ≤ 399000) (he : 0 ≤ e ∧ e < 12) : f_cost Y e ≤ 468 := by
  unfold f_cost
  split
  · omega
  · split
    · rename_i q1 q2
      have := f_am_b hW he q2
      have := f_om_b hW he q1 q2 hn
      omega
    · omega
theorem C_soonest (hd : 8 ≤ d) (hC : cS μ S) (hI : iS n S) (h : ∀ μ', zEc μ' μ → cS μ' (o_soonest S t).2 → K (some (.inl (o_soonest S t).1)) μ') : zCall g d 146 [.inr (.inr ((0, 11), 0)), .inl t] μ K := by
  have w := hI.env
  have nw := hI.now
  have ev := hC.env
  have hN : cN μ (zX S) := hC.2.2.2.2.2.1
  have hi : iN S.1 (zX S) := hI.2.2.2.2.2.2.1
  have i8 := hi.1
  have n1 := hN.1
  unfold o_soonest at h
  refine sX11_soonest ⟨by omega, c_hasT (fun q => zb1 (sX8_soonestFor ?_)) (fun q => zb0 ?_)⟩
  · rw [if_pos (by omega)] at h
    obtain ⟨F, hF⟩ : ∃ F, f_so S.1 (zX S) t = F := ⟨_, rfl⟩
    have F0 : F 0 = (-2, 0) := by rw [← hF]; rfl
    have Fs : ∀ e : Nat, F (e + 1) = if f_fit S.1 (zX S) (e : Int) t = true ∧ 0 ≤ f_cost S.1 (e : Int) ∧ ((F e).1 < 0 ∨ f_cost S.1 (e : Int) < (F e).2) then ((e : Int), f_cost S.1 (e : Int)) else F e := by intro e; rw [← hF]; rfl
    have cb : ∀ e : Nat, e < 12 → f_cost S.1 (e : Int) ≤ 468 := fun e he => f_cost_b hI.W (by omega) (by omega)
    rw [hF] at h
    clear hF
    have lp : ∀ (k j : Nat) (M : zM), (j : Int) + k = μ 5 0 → zE25 M μ → zT g (d - 1) mX8_soonestFor (zIi fun r3 μ2 => K (some (.inl r3)) μ2) 9 [some (.inr (.inr ((0, 8), 78))), some (.inl t), some (.inl (F j).1), some (.inl (if (F j).1 < 0 then 1000000000 else (F j).2)), some (.inl (j : Int)), none] [] M := by
      intro k
      induction k with
      | zero =>
        intro j M hj hM
        have hCM : cS M S := hC.scr (fun j hj => hM j (by unfold z_scr at hj; omega))
        have hEM : zEc M μ := fun j hj => hM j (by omega)
        have jj : (S.1 13 3).toNat = j := by omega
        rw [jj] at h
        have m5 : M 5 0 = μ 5 0 := by rw [hM 5 (by omega)]
        refine sX8_soonestFor_9 ⟨fun _ => ⟨fun q2 => zi ?_, fun q2 => ?_⟩, fun q2 => by omega⟩
        · rw [if_pos q2] at h
          have f2 : (F j).1 = -2 := by
            clear h
            have : ∀ a : Nat, (F a).1 = -2 ∨ 0 ≤ (F a).1 := by
              intro a
              induction a with
              | zero => rw [F0]; exact Or.inl rfl
              | succ a ih =>
                rw [Fs a]
                split
                · right; show (0 : Int) ≤ (a : Int); omega
                · exact ih
            rcases this j with a | a
            · exact a
            · omega
          rw [f2]
          exact h M hEM hCM
        · rw [if_neg (by omega)] at h
          rw [if_neg (by omega)]
          refine ⟨by omega, c_tellOneR (by omega) (fun N hN hr => zn (zi ?_))⟩
          exact h N (fun j hj => by rw [hN j (by omega), hM j (by omega)]) (hCM.row (fun j _ hj => hN j hj) hr)
      | succ k ih =>
        intro j M hj hM
        have hCM : cS M S := hC.scr (fun j hj => hM j (by unfold z_scr at hj; omega))
        have hvM := hCM.1.1
        have m5 : M 5 0 = μ 5 0 := by rw [hM 5 (by omega)]
        have hNM : cN M (zX S) := hCM.2.2.2.2.2.1
        have cbj := cb j (by omega)
        have skip : ¬ (f_fit S.1 (zX S) (j : Int) t = true ∧ 0 ≤ f_cost S.1 (j : Int) ∧ ((F j).1 < 0 ∨ f_cost S.1 (j : Int) < (F j).2)) → ∀ N, zE25 N μ → zT g (d - 1) mX8_soonestFor (zIi fun r3 μ2 => K (some (.inl r3)) μ2) 9 [some (.inr (.inr ((0, 8), 78))), some (.inl t), some (.inl (F j).1), some (.inl (if (F j).1 < 0 then 1000000000 else (F j).2)), some (.inl (zw ((j : Int) + 1))), none] [] N := by
          intro q2 N hN
          have := ih (j + 1) N (by omega) hN
          rw [Fs j, if_neg q2] at this
          rw [zw_suc (by omega)]
          exact this
        have take : ∀ c : Int, c = f_cost S.1 (j : Int) → (f_fit S.1 (zX S) (j : Int) t = true ∧ 0 ≤ f_cost S.1 (j : Int) ∧ ((F j).1 < 0 ∨ f_cost S.1 (j : Int) < (F j).2)) → ∀ N, zE25 N μ → zT g (d - 1) mX8_soonestFor (zIi fun r3 μ2 => K (some (.inl r3)) μ2) 9 [some (.inr (.inr ((0, 8), 78))), some (.inl t), some (.inl (j : Int)), some (.inl c), some (.inl (zw ((j : Int) + 1))), none] [] N := by
          intro c hc q2 N hN
          have := ih (j + 1) N (by omega) hN
          rw [Fs j, if_pos q2] at this
          simp only [if_neg (show ¬ (j : Int) < 0 by omega)] at this
          rw [zw_suc (by omega), hc]
          exact this
        refine sX8_soonestFor_9 ⟨fun q2 => by omega, fun q2 => ⟨by omega, c_suits (by omega) (hCM.W hI) hNM hi (by omega) (by omega) (fun q3 => zb1 (c_onRoad (s := 20) (by omega) (fun q4 => zb1 ⟨fun q5 => ?_, fun q5 => ?_⟩) (fun q4 => zb0 (c_freeing (by omega) (Or.inl rfl) hCM.1.2.1 (hCM.W hI) (by rw [hvM]; exact hI.R) (by omega) q4 (fun N hN hf => zi ?_))))) (fun q3 => zb0 (skip (fun hh => ?_) M hM))⟩⟩
        · rw [(hCM.en (by omega)).1] at q4
          have c0 : f_cost S.1 (j : Int) = 0 := by unfold f_cost; rw [if_pos q4]
          refine skip (fun hh => ?_) M hM
          rw [c0] at hh
          by_cases a : (F j).1 < 0
          · rw [if_pos a] at q5; omega
          · rw [if_neg a] at q5; omega
        · rw [(hCM.en (by omega)).1] at q4
          rw [hvM] at q3
          have c0 : f_cost S.1 (j : Int) = 0 := by unfold f_cost; rw [if_pos q4]
          refine take 0 c0.symm ⟨q3, by omega, ?_⟩ M hM
          by_cases a : (F j).1 < 0
          · exact Or.inl a
          · rw [if_neg a] at q5; exact Or.inr (by omega)
        · rw [(hCM.en (by omega)).1] at q4
          rw [hvM] at q3 hf ⊢
          have hN' : zE25 N μ := fun j hj => by rw [hN j hj, hM j hj]
          have c0 : (if f_frees S.1 (j : Int) = true then f_am S.1 (j : Int) + f_om S.1 (j : Int) else -2) = f_cost S.1 (j : Int) := by unfold f_cost; rw [if_neg q4]
          rw [c0]
          refine ⟨fun q5 => skip (fun hh => by omega) N hN', fun q5 => ⟨fun q6 => skip (fun hh => ?_) N hN', fun q6 => take _ rfl ⟨q3, q5, ?_⟩ N hN'⟩⟩
          · by_cases a : (F j).1 < 0
            · rw [if_pos a] at q6; omega
            · rw [if_neg a] at q6; omega
          · by_cases a : (F j).1 < 0
            · exact Or.inl a
            · rw [if_neg a] at q6; exact Or.inr q6
        · rw [hvM] at q3
          rw [q3] at hh
          cases hh.1
    have := lp (μ 5 0).toNat 0 μ (by omega) (fun _ _ => rfl)
    rw [F0] at this
    exact this
  · rw [if_neg (by omega)] at h
    exact h μ (zEc.refl μ) hC
theorem M_soonest (hd : 340 ≤ d) (hC : mS μ S) (hI : iS n S) (h : ∀ μ', zEd μ' μ → mS μ' (o_soonest S t).2 → K (some (.inl (o_soonest S t).1)) μ') : zCall g d 259 [.inr (.inr ((0, 12), 119)), .inl t] μ K := by
  have w := hI.env
  have nw := hI.now
  have hC0 : mS (zU μ 119 33 0) S := hC.thr
  have hE : zEd (zU μ 119 33 0) μ := (zEd.refl μ).u (by omega)
  refine sX12_soonest ⟨by omega, ?_⟩
  generalize zU μ 119 33 0 = N0 at *
  have ev := hC0.env
  have hN : mN N0 (zX S) := hC0.2.2.2.2.2.1
  have hi : iN S.1 (zX S) := hI.2.2.2.2.2.2.1
  have i8 := hi.1
  have n1 := hN.1
  unfold o_soonest at h
  refine m_isTrain (by omega) (by omega) (fun q => zb1 ?_) (fun q => zb0 ?_)
  · rw [if_pos (by omega)] at h
    obtain ⟨F, hF⟩ : ∃ F, f_so S.1 (zX S) t = F := ⟨_, rfl⟩
    have F0 : F 0 = (-2, 0) := by rw [← hF]; rfl
    have Fs : ∀ e : Nat, F (e + 1) = if f_fit S.1 (zX S) (e : Int) t = true ∧ 0 ≤ f_cost S.1 (e : Int) ∧ ((F e).1 < 0 ∨ f_cost S.1 (e : Int) < (F e).2) then ((e : Int), f_cost S.1 (e : Int)) else F e := by intro e; rw [← hF]; rfl
    have cb : ∀ e : Nat, e < 12 → f_cost S.1 (e : Int) ≤ 468 := fun e he => f_cost_b hI.W (by omega) (by omega)
    rw [hF] at h
    clear hF
    have lp : ∀ (k j : Nat) (M : zM), (j : Int) + k = N0 119 6 → mS M S → zEd M N0 → zT g d mX12_soonest K 23 [some (.inr (.inr ((0, 12), 119))), some (.inl t), some (.inl (F j).1), some (.inl (if (F j).1 < 0 then 0 else (F j).2)), some (.inl (j : Int)), none] [] M := by
      intro k
      induction k with
      | zero =>
        intro j M hj hCM hEM
        have evM := hCM.env
        have jj : (S.1 13 3).toNat = j := by omega
        rw [jj] at h
        refine sX12_soonest_23 ⟨fun _ => ⟨fun q2 => ?_, fun q2 => ?_⟩, fun q2 => by omega⟩
        · rw [if_neg (by omega)] at h
          rw [if_neg (by omega)]
          refine ⟨by omega, m_tellR mR_0 (by simp) (fun Q hQ hr => zn ?_)⟩
          have hQ' := hQ.trans zE32_0
          exact h Q (fun j hj => by rw [hQ'.1 j (by omega), hEM j hj, hE j hj]) (hCM.row (fun j _ hj => hQ'.1 j hj) (fun i _ hi => hQ'.2 i hi) hr)
        · rw [if_pos q2] at h
          exact h M (hEM.trans hE) hCM
      | succ k ih =>
        intro j M hj hCM hEM
        have evM := hCM.env
        have hvM := hCM.1.1
        have hNM : mN M (zX S) := hCM.2.2.2.2.2.1
        have cbj := cb j (by omega)
        have skip : ¬ (f_fit S.1 (zX S) (j : Int) t = true ∧ 0 ≤ f_cost S.1 (j : Int) ∧ ((F j).1 < 0 ∨ f_cost S.1 (j : Int) < (F j).2)) → ∀ N, mS N S → zEd N N0 → zT g d mX12_soonest K 23 [some (.inr (.inr ((0, 12), 119))), some (.inl t), some (.inl (F j).1), some (.inl (if (F j).1 < 0 then 0 else (F j).2)), some (.inl (zw ((j : Int) + 1))), none] [] N := by
          intro q2 N hN1 hN2
          have := ih (j + 1) N (by omega) hN1 hN2
          rw [Fs j, if_neg q2] at this
          rw [zw_suc (by omega)]
          exact this
        have take : ∀ c : Int, c = f_cost S.1 (j : Int) → (f_fit S.1 (zX S) (j : Int) t = true ∧ 0 ≤ f_cost S.1 (j : Int) ∧ ((F j).1 < 0 ∨ f_cost S.1 (j : Int) < (F j).2)) → ∀ N, mS N S → zEd N N0 → zT g d mX12_soonest K 23 [some (.inr (.inr ((0, 12), 119))), some (.inl t), some (.inl (j : Int)), some (.inl c), some (.inl (zw ((j : Int) + 1))), none] [] N := by
          intro c hc q2 N hN1 hN2
          have := ih (j + 1) N (by omega) hN1 hN2
          rw [Fs j, if_pos q2] at this
          simp only [if_neg (show ¬ (j : Int) < 0 by omega)] at this
          rw [zw_suc (by omega), hc]
          exact this
        refine sX12_soonest_23 ⟨fun q2 => by omega, fun q2 => ⟨by omega, m_isFit (co := S.1 14) (cn := S.1 15 0) (hCM.W hI) hNM hi (by omega) (by omega) (fun q3 => zb1 ⟨by omega, fun q4 => ⟨fun q5 => ?_, fun q5 => ⟨fun q6 => ?_, fun q6 => ?_⟩⟩, fun q4 => ?_⟩) (fun q3 => zb0 (skip (fun hh => ?_) M hCM hEM))⟩⟩
        · rw [(hCM.en (by omega)).1] at q4
          rw [hvM] at q3
          have c0 : f_cost S.1 (j : Int) = 0 := by unfold f_cost; rw [if_pos q4]
          exact take 0 c0.symm ⟨q3, by omega, Or.inl q5⟩ M hCM hEM
        · rw [(hCM.en (by omega)).1] at q4
          rw [hvM] at q3
          rw [if_neg (by omega)] at q6
          have c0 : f_cost S.1 (j : Int) = 0 := by unfold f_cost; rw [if_pos q4]
          exact take 0 c0.symm ⟨q3, by omega, Or.inr (by omega)⟩ M hCM hEM
        · rw [(hCM.en (by omega)).1] at q4
          rw [if_neg (by omega)] at q6
          have c0 : f_cost S.1 (j : Int) = 0 := by unfold f_cost; rw [if_pos q4]
          exact skip (fun hh => by omega) M hCM hEM
        · rw [(hCM.en (by omega)).1] at q4
          rw [hvM] at q3
          refine m_freeU (by omega) hCM hI (by omega) q4 (fun hf P p43 p44 p45 hU => zb1 ?_) (fun hf P hP1 hP2 => zb0 (skip (fun hh => ?_) P hP1 (hP2.trans hEM)))
          · have c0 : f_cost S.1 (j : Int) = f_am S.1 (j : Int) + f_om S.1 (j : Int) := by unfold f_cost; rw [if_neg q4, if_pos hf]
            have ba := f_am_b hI.W (e := (j : Int)) (by omega) hf
            have bo := f_om_b hI.W (e := (j : Int)) (by omega) q4 hf (by omega)
            refine hU (d - 1) _ (by omega) (fun Q hQ1 hQ2 _ _ _ _ => zn ?_)
            rw [p44, p45, zwi (x := f_am S.1 (j : Int) + f_om S.1 (j : Int)) (by omega) (by omega), ← c0]
            refine ⟨fun q5 => take _ rfl ⟨q3, by omega, Or.inl q5⟩ Q hQ1 (hQ2.trans hEM), fun q5 => ⟨fun q6 => ?_, fun q6 => ?_⟩⟩
            · rw [if_neg (by omega)] at q6
              exact take _ rfl ⟨q3, by omega, Or.inr q6⟩ Q hQ1 (hQ2.trans hEM)
            · rw [if_neg (by omega)] at q6
              exact skip (fun hh => by omega) Q hQ1 (hQ2.trans hEM)
          · have c0 : f_cost S.1 (j : Int) = -2 := by unfold f_cost; rw [if_neg q4, if_neg (by rw [hf]; simp)]
            omega
        · rw [hvM] at q3
          rw [q3] at hh
          cases hh.1
    have := lp (N0 119 6).toNat 0 N0 (by omega) hC0 (zEd.refl N0)
    rw [F0] at this
    exact this
  · rw [if_neg (by omega)] at h
    exact h N0 hE hC0
end
