-- needs 91
/-! coaled, fill: the class's calls -/
theorem ct_sum (X : zM) : ∀ (es : List Nat) (r : List Int) (T : Int → Int), r.length = es.length → (∀ j ∈ r, 0 ≤ j ∧ j < 3) → ct X es r T 0 + ct X es r T 1 + ct X es r T 2 = T 0 + T 1 + T 2 + ts X es
  | [], [], T, _, _ => by simp [ct, ts]
  | [], _ :: _, _, h, _ => by simp at h
  | _ :: _, [], _, h, _ => by simp at h
  | e :: es, j :: r, T, h, hj => by
    have ih := ct_sum X es r (fun x => if x = j then T x + X 2 (e : Int) else T x) (by simpa using h) (fun j' h' => hj j' (by simp [h']))
    have j3 := hj j (by simp)
    simp only [ct, ts]
    rw [ih]
    have : j = 0 ∨ j = 1 ∨ j = 2 := by omega
    rcases this with rfl | rfl | rfl <;> simp <;> omega
def zEh (μ' μ : zM) : Prop := ∀ j, ¬ (j = 18 ∨ j = 19 ∨ j = 71) → μ' j = μ j
theorem zEh.trans {a b c : zM} (h : zEh a b) (h' : zEh b c) : zEh a c := fun j hj => (h j hj).trans (h' j hj)
section
variable {g : zG} {d : Nat} {K : Option zV → zM → Prop} {μ X : zM} {n : Nat} {D : Nat} {x f s nn : Int} {S : zS}
theorem c_tell1 {x : Nat} {r : List Int} {v w : Int} (hd : 1 ≤ d) (hx : x < 3) (hr : cR μ r) (hl : r.length < 12) (h1 : μ 71 (x : Int) = v) (h5 : μ 74 (x : Int) = w) (hv : 0 ≤ v ∧ v ≤ 999) (hw : 0 ≤ w ∧ w ≤ 999) (hs : 0 ≤ s ∧ s ≤ 9999)
    (h : ∀ N, zEh N μ → cR N (r ++ [v - w]) → (∀ y, N 71 y = if ¬ f = 0 ∧ y = (x : Int) then v - w else μ 71 y) → zT g d mX1_share K 61 [some (.inr (.inr ((0, 1), 70))), none, some (.inl f), some (.inl (s + w)), some (.inl ((x + 1 : Nat) : Int))] [] N) : zT g d mX1_share K 61 [some (.inr (.inr ((0, 1), 70))), none, some (.inl f), some (.inl s), some (.inl (x : Int))] [] μ := by
  refine sX1_share_61 ⟨fun q => by omega, fun _ => ⟨by omega, hd, ?_⟩⟩
  rw [h1, h5, zwi (x := v - w) (by omega) (by omega), zwi (x := s + w) (by omega) (by omega), zw_suc (by omega)]
  refine c_tellR hr hl (fun M hM hr2 => zn ⟨fun q => ?_, fun q => ?_⟩)
  · refine h M (fun j hj => hM j (by omega)) hr2 (fun y => ?_)
    rw [if_neg (fun hh => hh.1 q), hM 71 (by omega)]
  · rw [hM 71 (by omega), hM 74 (by omega), h1, h5, zwi (x := v - w) (by omega) (by omega)]
    refine h _ (fun j hj => by rw [zU_off j (by omega)]; exact hM j (by omega)) (hr2.same (by rw [zU_off 18 (by omega)]) (zU_off 19 (by omega))) (fun y => ?_)
    by_cases qy : y = (x : Int)
    · subst qy
      rw [zU_eq, if_pos ⟨q, rfl⟩]
    · rw [zU_ne (by omega), if_neg (fun hh => qy hh.2), hM 71 (by omega)]
theorem C_share (hd : 30 ≤ d) (hC : cS μ S) (hI : iS nn S) (hx : cn_ok (S.1 13 3) x) (h : ∀ μ', zEc μ' μ → cS μ' (o_share S x f).2 → K (some (.inl (o_share S x f).1)) μ') : zCall g d 17 [.inr (.inr ((0, 1), 70)), .inl x, .inl f] μ K := by
  have w := hI.env
  have ev := hC.env
  unfold o_share at h
  rw [if_pos hx] at h
  obtain ⟨x0, x1, x2⟩ := hx
  have p := p2_12 (n := (S.1 13 3).toNat) (by omega)
  obtain ⟨D, rfl⟩ : ∃ D : Nat, x = (D : Int) := ⟨x.toNat, by omega⟩
  rw [show ((D : Int)).toNat = D from by omega] at h x2
  have D4 : D < 4096 := by omega
  obtain ⟨n, hn⟩ : ∃ n : Nat, S.1 13 3 = (n : Int) := ⟨(S.1 13 3).toNat, by omega⟩
  rw [hn, show ((n : Int)).toNat = n from by omega] at h
  have hO := hC.2.2.2.2.1
  have hX : iO (zX S) := hI.2.2.2.2.2.1
  have hlb := bl_len D n 0
  have h12 : fr_c D n ≤ fr_c D 12 := by
    have := bl_len D (12 - n) n
    rw [show n + (12 - n) = 12 from by omega] at this
    omega
  have hl7 : (bl D n 0).length ≤ 7 := by
    rw [Nat.zero_add] at hlb
    omega
  have hlt := bl_lt D n 0
  have he12 : ∀ e ∈ bl D n 0, e < 12 := fun e he => by have := hlt e he; omega
  refine sX1_share ⟨by omega, c_callUp (n := n) (by omega) (by omega) (by omega) D4 hl7 (fun M hM m7 m75 m73 m10 => zn ?_)⟩
  have qM : cQ M (zX S) (bl D n 0) := ⟨fun y hy => by rw [hM 71 (by omega), hM 72 (by omega)]; exact hO.1 y hy, fun e he => by rw [hM 10 (by omega), hM 11 (by omega)]; exact hO.2 e he, m75, m7⟩
  refine c_tryGrades hX hl7 he12 (bl D n 0) [] (d - 1) M (fun _ => 0) [] none _ rfl rfl (by omega) qM m73 (fun y => by simp) (zli_nil _) (by simp [cg_ok, ok1]) (fun r => rfl) m10 (fun N hN _ _ hA => zn ?_)
  have qN := qM.same hN
  have eN : ∀ j, ¬ (j = 70 ∨ (73 ≤ j ∧ j ≤ 77)) → N j = μ j := fun j hj => by rw [hN.1 j (by omega), hM j (by omega)]
  have hCN : cS N S := hC.scr (fun j hj => eN j (by unfold z_scr at hj; omega))
  cases hcg : cg (zX S) (bl D n 0) (fun _ => 0) [] none with
  | none =>
    rw [hcg] at h hA
    have hA : N 70 10 = 0 := hA
    exact ⟨fun q => absurd hA q, fun _ => h N (fun j hj => eN j (by omega)) hCN⟩
  | some q =>
    rw [hcg] at h hA
    obtain ⟨a1, a2, a3, a4, a5⟩ := hA
    rcases cg_is (zX S) (bl D n 0) (fun _ => 0) [] none q hcg with hh | ⟨r, hr1, hr2, hr3, _, _⟩
    · cases hh
    rw [List.nil_append] at hr1
    rw [← hr1] at hr2 hr3
    have CTb := ct_b (zX S) hX (bl D n 0) q.2 (fun _ => 0) 0 he12 (fun x => by simp)
    have sum := ct_sum (zX S) (bl D n 0) q.2 (fun _ => 0) hr2 hr3
    simp only [] at h
    obtain ⟨CT, hCT⟩ : ∃ CT, ct (zX S) (bl D n 0) q.2 (fun _ => 0) = CT := ⟨_, rfl⟩
    rw [hCT] at CTb a4 sum
    have lq : q.2.length ≤ 7 := by omega
    refine ⟨fun _ => c_emptyR (fun V hV hrV => zn ?_), fun q => by omega⟩
    have tail : ∀ U : zM, zE18 U N → cR U q.2 → zT g d mX1_share K 61 [some (.inr (.inr ((0, 1), 70))), none, some (.inl f), some (.inl 0), some (.inl 0)] [] U := by
      intro U hU hrU
      have u71 : ∀ y, 0 ≤ y ∧ y < 3 → U 71 y = zX S 0 y := fun y hy => by rw [hU 71 (by omega)]; exact (qN.1 y hy).1
      have u74 : ∀ y, 0 ≤ y ∧ y < 3 → U 74 y = CT y := fun y hy => by rw [hU 74 (by omega)]; exact a4 y hy
      have b0 := hX.1 0 (by omega)
      have b1 := hX.1 1 (by omega)
      have b2 := hX.1 2 (by omega)
      have c0 := CTb 0
      have c1 := CTb 1
      have c2 := CTb 2
      refine c_tell1 (x := 0) (v := zX S 0 0) (w := CT 0) (by omega) (by omega) hrU (by omega) (u71 0 (by omega)) (u74 0 (by omega)) (by omega) (by omega) (by omega) (fun A hA hrA a71 => ?_)
      refine c_tell1 (x := 1) (v := zX S 0 1) (w := CT 1) (by omega) (by omega) hrA (by simp; omega) (by rw [a71, if_neg (fun hh => by omega)]; exact u71 1 (by omega)) (by rw [hA 74 (by omega)]; exact u74 1 (by omega)) (by omega) (by omega) (by omega) (fun B hB hrB b71 => ?_)
      refine c_tell1 (x := 2) (v := zX S 0 2) (w := CT 2) (by omega) (by omega) hrB (by simp; omega) (by rw [b71, if_neg (fun hh => by omega), a71, if_neg (fun hh => by omega)]; exact u71 2 (by omega)) (by rw [hB 74 (by omega), hA 74 (by omega)]; exact u74 2 (by omega)) (by omega) (by omega) (by omega) (fun C hC' hrC c71 => ?_)
      have eC : zEh C U := hC'.trans (hB.trans hA)
      have eC2 : ∀ j, ¬ (j = 18 ∨ j = 19 ∨ j = 71) → C j = N j := fun j hj => by rw [eC j hj, hU j (by omega)]
      refine sX1_share_61 ⟨fun _ => ?_, fun q => by omega⟩
      have es : 0 + CT 0 + CT 1 + CT 2 = ts (zX S) (bl D n 0) := by
        have sum' : CT 0 + CT 1 + CT 2 = 0 + 0 + 0 + ts (zX S) (bl D n 0) := sum
        omega
      rw [es]
      refine h C (fun j hj => by rw [eC2 j (by omega), eN j (by omega)]) ?_
      unfold co_st
      rw [hCT]
      have ek : ∀ k, ¬ k = 0 → co_X (zX S) CT f k = zX S k := fun k hk => by
        funext i
        unfold co_X
        rw [if_neg (fun hh => hk hh.2.1)]
      obtain ⟨h1, h2, h3, h4, h5, h6, h7⟩ := hCN
      refine ⟨h1.same (fun j hj => eC2 j (by omega)), h2.same (by rw [eC2 12 (by omega)]) (eC2 13 (by omega)), hrC, h4.same (by rw [eC2 62 (by omega)]) (by rw [eC2 62 (by omega)]) (eC2 63 (by omega)) (eC2 64 (by omega)), ⟨fun i hi => ?_, fun e he => ?_⟩, (h6.same (by rw [eC2 78 (by omega)]) (fun j _ _ => eC2 j (by omega))).xx (fun k hk => ek k (by omega)), (h7.same (by rw [eC2 0 (by omega)]) (fun j _ _ => eC2 j (by omega))).xx (fun k hk => ek k (by omega))⟩
      · have i3 : i = 0 ∨ i = 1 ∨ i = 2 := by omega
        show C 71 i = co_X (zX S) CT f 0 i ∧ C 72 i = co_X (zX S) CT f 1 i
        rw [ek 1 (by omega)]
        refine ⟨?_, by rw [eC2 72 (by omega)]; exact (h5.1 i hi).2⟩
        rw [c71, b71, a71, u71 i hi]
        unfold co_X
        by_cases qf : f = 0
        · rw [if_neg (fun hh => hh.1 qf), if_neg (fun hh => hh.1 qf), if_neg (fun hh => hh.1 qf), if_neg (fun hh => hh.1 qf)]
        · rw [if_pos (show ¬ f = 0 ∧ 0 = 0 ∧ 0 ≤ i ∧ i < 3 from ⟨qf, rfl, hi⟩)]
          rcases i3 with rfl | rfl | rfl
          · rw [if_neg (fun hh => by omega), if_neg (fun hh => by omega), if_pos ⟨qf, rfl⟩]
          · rw [if_neg (fun hh => by omega), if_pos ⟨qf, rfl⟩]
          · rw [if_pos ⟨qf, rfl⟩]
      · rw [eC2 10 (by omega), eC2 11 (by omega)]
        show N 10 e = co_X (zX S) CT f 2 e ∧ N 11 e = co_X (zX S) CT f 3 e
        rw [ek 2 (by omega), ek 3 (by omega)]
        exact h5.2 e he
    have lp : ∀ (suf pre : List Int) (U : zM), pre ++ suf = q.2 → zE18 U N → cR U pre → zT g d mX1_share K 29 [some (.inr (.inr ((0, 1), 70))), none, some (.inl f), some (.inl (pre.length : Int)), none] [] U := by
      intro suf
      induction suf with
      | nil =>
        intro pre U hp hU hrU
        rw [List.append_nil] at hp
        subst hp
        refine sX1_share_29 ⟨fun _ => tail U hU hrU, fun q => ?_⟩
        rw [hU 70 (by omega), qN.2.2.2] at q
        omega
      | cons v suf ih =>
        intro pre U hp hU hrU
        have hl : pre.length + (suf.length + 1) = q.2.length := by rw [← hp]; simp
        have hv : N 77 (pre.length : Int) = v := a3 pre.length v (by rw [← hp]; simp)
        refine sX1_share_29 ⟨fun q => ?_, fun _ => ⟨by omega, by omega, ?_⟩⟩
        · rw [hU 70 (by omega), qN.2.2.2] at q
          omega
        · rw [hU 77 (by omega), hv]
          refine c_tellR hrU (by omega) (fun T hT hrT => zn ?_)
          rw [zw_suc (by omega)]
          have := ih (pre ++ [v]) T (by rw [← hp]; simp) (hT.trans hU) hrT
          rw [show (pre ++ [v]).length = pre.length + 1 from by simp] at this
          exact this
    exact lp q.2 [] V rfl hV hrV
theorem C_coaled (hd : 40 ≤ d) (hx : zI32 x) (hC : cS μ S) (hI : iS nn S) (h : ∀ μ', zEc μ' μ → cS μ' (o_share S x 0).2 → K (some (.inl (o_share S x 0).1)) μ') : zCall g d 138 [.inr (.inr ((0, 11), 0)), .inl x] μ K := by
  have w := hI.env
  have ev := hC.env
  have e3 : (((S.1 13 3).toNat : Nat) : Int) = S.1 13 3 := by omega
  refine sX11_coaled ⟨by omega, c_canCount (n := (S.1 13 3).toNat) (by omega) hx (by omega) (by omega) (fun q => zb1 ?_) (fun q => zb0 ?_)⟩
  · rw [e3] at q
    exact C_share (by omega) hC hI q (fun M hM hCM => zi (h M hM hCM))
  · rw [e3] at q
    rw [o_share_no q] at h
    exact h μ (zEc.refl μ) hC
theorem C_fill (hd : 40 ≤ d) (hx : zI32 x) (hC : cS μ S) (hI : iS nn S) (h : ∀ μ', zEc μ' μ → cS μ' (o_share S x 1).2 → K (some (.inl (o_share S x 1).1)) μ') : zCall g d 139 [.inr (.inr ((0, 11), 0)), .inl x] μ K := by
  have w := hI.env
  have ev := hC.env
  have e3 : (((S.1 13 3).toNat : Nat) : Int) = S.1 13 3 := by omega
  refine sX11_fill ⟨by omega, c_canCount (n := (S.1 13 3).toNat) (by omega) hx (by omega) (by omega) (fun q => zb1 ?_) (fun q => zb0 ?_)⟩
  · rw [e3] at q
    exact C_share (by omega) hC hI q (fun M hM hCM => zi (h M hM hCM))
  · rw [e3] at q
    rw [o_share_no q] at h
    exact h μ (zEc.refl μ) hC
end
