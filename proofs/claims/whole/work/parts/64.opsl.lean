-- needs 50 51 52 53 54 55 56 57 58 59 60 61 62 63
/-! operations: sheet, sign -/
def f_cv (k v : Int) : Int := if k = 0 then zi2b v else if k = 1 then zi2s v else v
def f_sv (f st : Int) : Nat → Int
  | 0 => f
  | i + 1 => zw (f_sv f st i + st)
def f_sl (k n f st : Int) (i : Nat) : Int := if k = 3 ∨ n ≤ (i : Int) then 30 else min 60 (max 10 (f_cv k (f_sv f st i)))
def f_ss (k n f st : Int) : Nat → Int
  | 0 => 0
  | i + 1 => f_ss k n f st i + f_sl k n f st i
theorem f_sl_b (k n f st : Int) (i : Nat) : 10 ≤ f_sl k n f st i ∧ f_sl k n f st i ≤ 60 := by
  unfold f_sl
  split <;> omega
theorem f_ss_b (k n f st : Int) : ∀ i : Nat, 0 ≤ f_ss k n f st i ∧ f_ss k n f st i ≤ 60 * (i : Int)
  | 0 => by simp [f_ss]
  | i + 1 => by
    have h1 := f_ss_b k n f st i
    have h2 := f_sl_b k n f st i
    simp only [f_ss]
    generalize f_ss k n f st i = a at *
    generalize f_sl k n f st i = c at *
    omega
/-- the lengths read off a sheet -/
def f_sheet (Y : zM) (k n f st : Int) : zM := fun p i => if p = 6 ∧ 0 ≤ i ∧ i < Y 13 0 then f_sl k n f st i.toNat else Y p i
def o_sheet (S : zS) (k n f st : Int) : Int × zS := if (0 ≤ k ∧ k ≤ 3) ∧ n ≤ S.1 13 0 ∧ f_ins S.1 = 0 then (if k = 3 then (-3, sV (sY S (f_sheet S.1 k n f st))) else if n < 0 then (-2, S) else (f_ss k n f st (S.1 13 0).toNat, sV (sY S (f_sheet S.1 k n f st)))) else (-1, S)
section
variable {g : zG} {d : Nat} {K : Option zV → zM → Prop} {μ μ' Y X : zM} {s m i : Nat} {r : List Int} {S : zS} {co : Int → Int} {cn n x y z b v e p t k f st : Int}
theorem c_asLength (hd : 1 ≤ d) (h : K (some (.inl (min 60 (max 10 (f_cv x y))))) μ) : zCall g d 41 [.inl x, .inl y] μ K := by
  unfold f_cv at h
  refine sX4_asLength ⟨fun q => ⟨fun q2 => ⟨by omega, ?_⟩, fun q2 => ⟨by omega, ?_⟩⟩, fun q => ⟨by omega, ?_⟩⟩
  · rw [if_neg q, if_neg q2] at h; exact h
  · rw [if_neg q, if_pos q2] at h; exact h
  · rw [if_pos q] at h; exact h
/-- the sheet is read into the class's lengths; nn is k's n, or anything below 1 where k is 3 -/
theorem c_readSheet {nn : Int} (hd : 2 ≤ d) (hn : 4 ≤ μ 1 0 ∧ μ 1 0 ≤ 23) (hk : k = 3 ∧ nn ≤ 0 ∨ ¬ k = 3 ∧ nn = n) (h : ∀ μ', (∀ j, ¬ j = 2 → μ' j = μ j) → (∀ i : Int, μ' 2 i = if 0 ≤ i ∧ i < μ 1 0 then f_sl k n f st i.toNat else μ 2 i) → K (some (.inl (f_ss k n f st (μ 1 0).toNat))) μ') : zCall g d 40 [.inr (.inr ((0, 4), 1)), .inl k, .inl nn, .inl f, .inl st] μ K := by
  refine sX4_readSheet ?_
  obtain ⟨F, hF⟩ : ∃ F, f_sv f st = F := ⟨_, rfl⟩
  obtain ⟨L, hL⟩ : ∃ L, f_sl k n f st = L := ⟨_, rfl⟩
  obtain ⟨A, hA⟩ : ∃ A, f_ss k n f st = A := ⟨_, rfl⟩
  have F0 : F 0 = f := by rw [← hF]; rfl
  have Fs : ∀ i, F (i + 1) = zw (F i + st) := by intro i; rw [← hF]; rfl
  have A0 : A 0 = 0 := by rw [← hA]; rfl
  have As : ∀ i, A (i + 1) = A i + L i := by intro i; rw [← hA, ← hL]; rfl
  have Ab : ∀ i : Nat, 0 ≤ A i ∧ A i ≤ 60 * (i : Int) := by intro i; rw [← hA]; exact f_ss_b k n f st i
  have Lb : ∀ i : Nat, 10 ≤ L i ∧ L i ≤ 60 := by intro i; rw [← hL]; exact f_sl_b k n f st i
  have L1 : ∀ i : Nat, nn ≤ (i : Int) → L i = 30 := by
    intro i hi
    rw [← hL]
    unfold f_sl
    rw [if_pos (by omega)]
  have L2 : ∀ i : Nat, (i : Int) < nn → L i = min 60 (max 10 (f_cv k (F i))) := by
    intro i hi
    rw [← hL, ← hF]
    unfold f_sl
    rw [if_neg (by omega)]
  rw [hL, hA] at h
  clear hL hA hF
  have lp : ∀ (q j : Nat) (M : zM), (j : Int) + q = μ 1 0 → (∀ j, ¬ j = 2 → M j = μ j) → (∀ i : Int, M 2 i = if 0 ≤ i ∧ i < (j : Int) then L i.toNat else μ 2 i) → zT g d mX4_readSheet K 9 [some (.inr (.inr ((0, 4), 1))), some (.inl k), some (.inl nn), none, some (.inl st), some (.inl (A j)), some (.inl (F j)), some (.inl (j : Int))] [] M := by
    intro q
    induction q with
    | zero =>
      intro j M hj hM hm
      have m1 : M 1 0 = μ 1 0 := by rw [hM 1 (by omega)]
      refine sX4_readSheet_9 ⟨fun _ => ?_, fun q => by omega⟩
      rw [show j = (μ 1 0).toNat from by omega]
      refine h M hM (fun i => ?_)
      rw [hm i, show (j : Int) = μ 1 0 from by omega]
    | succ q ih =>
      intro j M hj hM hm
      have m1 : M 1 0 = μ 1 0 := by rw [hM 1 (by omega)]
      have ab := Ab j
      have lb := Lb j
      have nx : ∀ v, v = L j → zT g d mX4_readSheet K 9 [some (.inr (.inr ((0, 4), 1))), some (.inl k), some (.inl nn), none, some (.inl st), some (.inl (zw (A j + v))), some (.inl (zw (F j + st))), some (.inl (zw ((j : Int) + 1)))] [] (zU M 2 (j : Int) v) := by
        intro v hv
        subst hv
        rw [zwi (x := A j + L j) (by omega) (by omega), ← As j, ← Fs j, zw_suc (by omega)]
        refine ih (j + 1) _ (by omega) (fun q hq => by rw [zU_off q hq]; exact hM q hq) (fun i => ?_)
        by_cases q5 : i = (j : Int)
        · subst q5
          rw [zU_eq, if_pos (by omega), show ((j : Int)).toNat = j from by omega]
        · rw [zU_ne (by omega), hm i]
          by_cases q6 : 0 ≤ i ∧ i < (j : Int)
          · rw [if_pos q6, if_pos (by omega)]
          · rw [if_neg q6, if_neg (by omega)]
      refine sX4_readSheet_9 ⟨fun q => by omega, fun q => ⟨fun q2 => ⟨by omega, ?_⟩, fun q2 => ⟨by omega, c_asLength (by omega) (zi ⟨by omega, ?_⟩)⟩⟩⟩
      · rw [zU_eq]
        exact nx 30 (L1 j q2).symm
      · rw [zU_eq]
        exact nx _ (L2 j q2).symm
  have := lp (μ 1 0).toNat 0 μ (by omega) (fun _ _ => rfl) (fun i => by rw [if_neg (by omega)])
  rw [A0, F0] at this
  exact this
theorem C_sheet (hd : 3 ≤ d) (hC : cS μ S) (hI : iS n S) (h : ∀ μ', zEc μ' μ → cS μ' (o_sheet S k x f st).2 → K (some (.inl (o_sheet S k x f st).1)) μ') : zCall g d 110 [.inr (.inr ((0, 11), 0)), .inl k, .inl x, .inl f, .inl st] μ K := by
  have w := hI.env
  have e := hC.env
  have hv := hI.ver
  have h7 : cK μ (zX S) := hC.2.2.2.2.2.2
  unfold o_sheet at h
  have no : ¬ ((0 ≤ k ∧ k ≤ 3) ∧ x ≤ S.1 13 0 ∧ f_ins S.1 = 0) → K (some (.inl (-1))) μ := by
    intro q
    rw [if_neg q] at h
    exact h μ (zEc.refl μ) hC
  have yes : ∀ M N : zM, (∀ j, ¬ (j = 2 ∨ j = 0) → M j = μ j) → (∀ i : Int, M 2 i = if 0 ≤ i ∧ i < S.1 13 0 then f_sl k x f st i.toNat else μ 2 i) → M 0 13 = zX S 8 1 + 1 → (∀ i, ¬ i = 13 → M 0 i = μ 0 i) → cS M (sV (sY S (f_sheet S.1 k x f st))) := by
    intro M N hM hm m0 m0'
    have hz := hC.1.2.1
    have e0 : M = zU (fun j => if j = 0 then μ 0 else M j) 0 13 (zX S 8 1 + 1) := by
      funext a c
      by_cases q : a = 0
      · subst q
        by_cases q2 : c = 13
        · subst q2; rw [zU_eq]; exact m0
        · rw [zU_ne (by omega)]
          show _ = μ 0 c
          exact m0' c q2
      · rw [zU_ne (by omega)]
        show _ = (if a = 0 then μ 0 else M a) c
        rw [if_neg q]
    rw [e0]
    have mm : ∀ j, ¬ j = 0 → (fun j => if j = 0 then μ 0 else M j : zM) j = M j := fun j hj => by simp [hj]
    have m00 : (fun j => if j = 0 then μ 0 else M j : zM) 0 = μ 0 := by simp
    generalize (fun j => if j = 0 then μ 0 else M j : zM) = B at *
    have b2 : ∀ i, B 2 i = if 0 ≤ i ∧ i < S.1 13 0 then f_sl k x f st i.toNat else μ 2 i := by rw [mm 2 (by omega)]; exact hm
    have bo : ∀ j, ¬ j = 2 → B j = μ j := fun j hj => by
      by_cases q : j = 0
      · subst q; exact m00
      · rw [mm j q, hM j (by omega)]
    refine cS.ver (hC.yard ⟨?_, zrl_same hz (bo 12 (by omega)), by rw [bo 12 (by omega)]; exact hC.1.2.2.1, ?_⟩ (fun j hj _ => bo j (by omega)))
    · funext a c
      unfold f_sheet
      by_cases q : a = 6
      · subst q
        have hv6 : S.1 6 c = y_cl 23 (μ 2) c := by rw [← hC.1.1]; rfl
        show y_cl 23 (B 2) c = _
        rw [hv6]
        unfold y_cl
        by_cases q2 : 0 ≤ c ∧ c < S.1 13 0
        · rw [if_pos (show 0 ≤ c ∧ c < 23 by omega), if_pos (show 6 = 6 ∧ 0 ≤ c ∧ c < S.1 13 0 from ⟨rfl, q2⟩), b2, if_pos q2]
        · rw [if_neg (show ¬ (6 = 6 ∧ 0 ≤ c ∧ c < S.1 13 0) from fun hh => q2 hh.2)]
          by_cases q3 : 0 ≤ c ∧ c < 23
          · rw [if_pos q3, if_pos q3, b2, if_neg q2]
          · rw [if_neg q3, if_neg q3]
      · rw [if_neg (by omega), ← hC.1.1]
        match a, q with
        | 0, _ => simp only [vC]; rw [bo 21 (by omega)]
        | 1, _ => simp only [vC]; rw [bo 22 (by omega)]
        | 2, _ => simp only [vC]; rw [bo 23 (by omega)]
        | 3, _ => simp only [vC]; rw [bo 24 (by omega)]
        | 4, _ => simp only [vC]; rw [bo 20 (by omega)]
        | 5, _ => simp only [vC]; rw [bo 20 (by omega)]
        | 6, q => exact absurd rfl q
        | 7, _ => simp only [vC]; rw [bo 3 (by omega)]
        | 8, _ => simp only [vC]; rw [bo 4 (by omega)]
        | 9, _ => simp only [vC]; rw [bo 6 (by omega)]
        | 10, _ => simp only [vC]; rw [bo 7 (by omega)]
        | 11, _ => simp only [vC]; rw [bo 8 (by omega)]
        | 12, _ => simp only [vC]; rw [bo 9 (by omega)]
        | 13, _ => simp only [vC]; rw [bo 5 (by omega), bo 1 (by omega)]
        | 14, _ =>
          simp only [vC]; rw [bo 12 (by omega)]
          rcases hz with hz | hz <;> rw [hz]
          · rw [show ((14 : Int)).toNat = 14 from rfl, bo 14 (by omega)]
          · rw [show ((15 : Int)).toNat = 15 from rfl, bo 15 (by omega)]
        | 15, _ => simp only [vC]; rw [bo 12 (by omega)]
        | a + 16, _ => simp only [vC]
    · rw [bo 20 (by omega), show f_sheet S.1 k x f st 4 = S.1 4 from by funext y; simp [f_sheet]]
      exact hC.1.2.2.2
  refine sX11_sheet ⟨fun _ => no (by omega), fun _ => ⟨fun _ => no (by omega), fun _ => ⟨fun _ => no (by omega), fun _ => ⟨by omega, c_inStalls (zi ⟨fun q => ⟨fun q3 => ⟨fun q4 => ?_, fun q4 => ?_⟩, fun q3 => ?_⟩, fun q => no (fun hh => ?_)⟩)⟩⟩⟩⟩
  · rw [hC.1.1] at q
    rw [if_pos (by omega), if_neg q3, if_neg (by omega)] at h
    rw [h7.1, zwi (x := zX S 8 1 + 1) (by omega) (by omega)]
    have u1 : ∀ v, zU μ 0 13 v 1 = μ 1 := fun v => zU_off 1 (by omega)
    refine c_readSheet (n := x) (by omega) (by rw [u1]; omega) (Or.inr ⟨q3, rfl⟩) (fun M hM hm => zi ?_)
    rw [u1, e.1] at hm ⊢
    refine h M (fun j hj => by rw [hM j (by omega), zU_off j (by omega)]) (yes M μ (fun j hj => by rw [hM j (by omega), zU_off j (by omega)]) (fun i => by rw [hm i, zU_off 2 (by omega)]) (by rw [hM 0 (by omega), zU_eq]) (fun i hi => by rw [hM 0 (by omega), zU_ne (by omega)]))
  · rw [hC.1.1] at q
    rw [if_pos (by omega), if_neg q3, if_pos q4] at h
    exact h μ (zEc.refl μ) hC
  · rw [hC.1.1] at q
    rw [if_pos (by omega), if_pos q3] at h
    refine c_readSheet (n := x) (by omega) (by omega) (Or.inl ⟨q3, by omega⟩) (fun M hM hm => zi ?_)
    rw [e.1] at hm
    rw [hM 0 (by omega), h7.1, zwi (x := zX S 8 1 + 1) (by omega) (by omega)]
    refine h _ (fun j hj => by rw [zU_off j (by omega), hM j (by omega)]) (yes _ μ (fun j hj => by rw [zU_off j (by omega), hM j (by omega)]) (fun i => by rw [zU_off 2 (by omega), hm i]) zU_eq (fun i hi => by rw [zU_ne (by omega), hM 0 (by omega)]))
  · rw [hC.1.1] at q
    apply q
    rw [hh.2.2]
    rfl
theorem M_sheet (hd : 3 ≤ d) (hC : mS μ S) (hI : iS n S) (h : ∀ μ', zEd μ' μ → mS μ' (o_sheet S k x f st).2 → K (some (.inl (o_sheet S k x f st).1)) μ') : zCall g d 173 [.inr (.inr ((0, 12), 119)), .inl k, .inl x, .inl f, .inl st] μ K := by
  have w := hI.env
  have hC0 : mS (zU μ 119 33 0) S := hC.thr
  have hE : zEd (zU μ 119 33 0) μ := (zEd.refl μ).u (by omega)
  refine sX12_sheet ⟨by omega, ?_⟩
  generalize zU μ 119 33 0 = N at *
  have e := hC0.env
  have hv := hI.ver
  have h7 : mK N (S.1 13 3) (zX S) := hC0.2.2.2.2.2.2
  unfold o_sheet at h
  have no : ¬ ((0 ≤ k ∧ k ≤ 3) ∧ x ≤ S.1 13 0 ∧ f_ins S.1 = 0) → K (some (.inl (-1))) N := by
    intro q
    rw [if_neg q] at h
    exact h N hE hC0
  have main : (0 ≤ k ∧ k ≤ 3) → x ≤ S.1 13 0 → f_ins S.1 = 0 → (k = 3 ∨ 0 ≤ x) → zT g d mX12_sheet K 52 [some (.inr (.inr ((0, 12), 119))), some (.inl k), some (.inl x), none, some (.inl st), some (.inl 0), some (.inl f), some (.inl 0), none] [] N := by
    intro q1 q2 q3 q4
    rw [if_pos ⟨q1, q2, q3⟩] at h
    have sh : ∀ M : zM, (∀ j, ¬ j = 120 → M j = N j) → (∀ i : Int, M 120 i = if 0 ≤ i ∧ i < S.1 13 0 then f_sl k x f st i.toNat else N 120 i) → mS (zU M 119 74 (zX S 8 1 + 1)) (sV (sY S (f_sheet S.1 k x f st))) := by
      intro M bo b2
      have c14 : f_sheet S.1 k x f st 14 = S.1 14 := by funext y; simp [f_sheet]
      have c15 : f_sheet S.1 k x f st 15 = S.1 15 := by funext y; simp [f_sheet]
      refine mS.ver (hC0.yard ⟨?_, by rw [c14, c15, bo 138 (by omega), bo 119 (by omega)]; exact hC0.1.2.1, by rw [bo 119 (by omega)]; exact hC0.1.2.2⟩ (fun j hj _ => bo j (by omega)) (fun i _ _ => by rw [bo 119 (by omega)])) hI.nver
      rw [c14, c15]
      funext a c
      unfold f_sheet
      by_cases q : a = 6
      · subst q
        have hv6 : S.1 6 c = y_cl 23 (N 120) c := by
          have := congrFun (congrFun hC0.1.1 6) c
          rw [← this]; rfl
        show y_cl 23 (M 120) c = _
        rw [hv6]
        unfold y_cl
        by_cases q2 : 0 ≤ c ∧ c < S.1 13 0
        · rw [if_pos (show 0 ≤ c ∧ c < 23 by omega), if_pos (show 6 = 6 ∧ 0 ≤ c ∧ c < S.1 13 0 from ⟨rfl, q2⟩), b2, if_pos q2]
        · rw [if_neg (show ¬ (6 = 6 ∧ 0 ≤ c ∧ c < S.1 13 0) from fun hh => q2 hh.2)]
          by_cases q3 : 0 ≤ c ∧ c < 23
          · rw [if_pos q3, if_pos q3, b2, if_neg q2]
          · rw [if_neg q3, if_neg q3]
      · rw [if_neg (by omega)]
        have := congrFun (congrFun hC0.1.1 a) c
        rw [← this]
        match a, q with
        | 0, _ => simp only [vM]; rw [bo 123 (by omega)]
        | 1, _ => simp only [vM]; rw [bo 124 (by omega)]
        | 2, _ => simp only [vM]; rw [bo 130 (by omega), bo 119 (by omega)]
        | 3, _ => simp only [vM]; rw [bo 131 (by omega), bo 119 (by omega)]
        | 4, _ => simp only [vM]; rw [bo 129 (by omega)]
        | 5, _ => simp only [vM]; rw [bo 119 (by omega)]
        | 6, q => exact absurd rfl q
        | 7, _ => simp only [vM]; rw [bo 121 (by omega)]
        | 8, _ => simp only [vM]; rw [bo 122 (by omega)]
        | 9, _ => simp only [vM]; rw [bo 125 (by omega)]
        | 10, _ => simp only [vM]; rw [bo 126 (by omega)]
        | 11, _ => simp only [vM]; rw [bo 127 (by omega)]
        | 12, _ => simp only [vM]; rw [bo 128 (by omega)]
        | 13, _ => simp only [vM]; rw [bo 119 (by omega)]
        | 14, _ => simp only [vM]
        | 15, _ => simp only [vM]
        | a + 16, _ => simp only [vM]
    obtain ⟨F, hF⟩ : ∃ F, f_sv f st = F := ⟨_, rfl⟩
    obtain ⟨L, hL⟩ : ∃ L, f_sl k x f st = L := ⟨_, rfl⟩
    obtain ⟨A, hA⟩ : ∃ A, f_ss k x f st = A := ⟨_, rfl⟩
    have F0 : F 0 = f := by rw [← hF]; rfl
    have Fs : ∀ i, F (i + 1) = zw (F i + st) := by intro i; rw [← hF]; rfl
    have A0 : A 0 = 0 := by rw [← hA]; rfl
    have As : ∀ i, A (i + 1) = A i + L i := by intro i; rw [← hA, ← hL]; rfl
    have Ab : ∀ i : Nat, 0 ≤ A i ∧ A i ≤ 60 * (i : Int) := by intro i; rw [← hA]; exact f_ss_b k x f st i
    have Lb : ∀ i : Nat, 10 ≤ L i ∧ L i ≤ 60 := by intro i; rw [← hL]; exact f_sl_b k x f st i
    have L1 : ∀ i : Nat, k = 3 ∨ x ≤ (i : Int) → L i = 30 := by
      intro i hi
      rw [← hL]
      unfold f_sl
      rw [if_pos hi]
    have L2 : ∀ i : Nat, ¬ (k = 3 ∨ x ≤ (i : Int)) → L i = min 60 (max 10 (f_cv k (F i))) := by
      intro i hi
      rw [← hL, ← hF]
      unfold f_sl
      rw [if_neg hi]
    rw [hA] at h
    rw [hL] at sh
    clear hL hA hF
    have lp : ∀ (q j : Nat) (M : zM), (j : Int) + q = N 119 0 → (∀ j, ¬ j = 120 → M j = N j) → (∀ i : Int, M 120 i = if 0 ≤ i ∧ i < (j : Int) then L i.toNat else N 120 i) → zT g d mX12_sheet K 52 [some (.inr (.inr ((0, 12), 119))), some (.inl k), some (.inl x), none, some (.inl st), some (.inl (A j)), some (.inl (F j)), some (.inl (j : Int)), none] [] M := by
      intro q
      induction q with
      | zero =>
        intro j M hj hM hm
        have m1 : M 119 0 = N 119 0 := by rw [hM 119 (by omega)]
        have jj : (S.1 13 0).toNat = j := by omega
        have j2 : S.1 13 0 = (j : Int) := by omega
        have sh2 := sh M hM (by rw [j2]; exact hm)
        have hE2 : ∀ v, zEd (zU M 119 74 v) μ := fun v q hq => by rw [zU_off q (by omega), hM q (by omega), hE q hq]
        refine sX12_sheet_52 ⟨fun _ => ?_, fun q => by omega⟩
        rw [hM 119 (by omega), h7.1, zwi (x := zX S 8 1 + 1) (by omega) (by omega)]
        refine ⟨fun q5 => ?_, fun q5 => ?_⟩
        · rw [if_neg q5, if_neg (by omega), jj] at h
          exact h _ (hE2 _) sh2
        · rw [if_pos q5] at h
          exact h _ (hE2 _) sh2
      | succ q ih =>
        intro j M hj hM hm
        have m1 : M 119 0 = N 119 0 := by rw [hM 119 (by omega)]
        have ab := Ab j
        have lb := Lb j
        have nx : ∀ v, v = L j → zT g d mX12_sheet K 52 [some (.inr (.inr ((0, 12), 119))), some (.inl k), some (.inl x), none, some (.inl st), some (.inl (zw (A j + v))), some (.inl (zw (F j + st))), some (.inl (zw ((j : Int) + 1))), none] [] (zU M 120 (j : Int) v) := by
          intro v hv
          subst hv
          rw [zwi (x := A j + L j) (by omega) (by omega), ← As j, ← Fs j, zw_suc (by omega)]
          refine ih (j + 1) _ (by omega) (fun q hq => by rw [zU_off q hq]; exact hM q hq) (fun i => ?_)
          by_cases q5 : i = (j : Int)
          · subst q5
            rw [zU_eq, if_pos (by omega), show ((j : Int)).toNat = j from by omega]
          · rw [zU_ne (by omega), hm i]
            by_cases q6 : 0 ≤ i ∧ i < (j : Int)
            · rw [if_pos q6, if_pos (by omega)]
            · rw [if_neg q6, if_neg (by omega)]
        have md : ∀ u, u = f_cv k (F j) → zT g d mX12_sheet K 84 [some (.inr (.inr ((0, 12), 119))), some (.inl k), some (.inl x), none, some (.inl st), some (.inl (A j)), some (.inl (F j)), some (.inl (j : Int)), none] [.inl u] M := by
          intro u hu
          refine sX12_sheet_84 ⟨fun q5 => ⟨by omega, ?_⟩, fun q5 => ⟨fun q6 => ⟨by omega, by omega, ?_⟩, fun q6 => ⟨by omega, ?_⟩⟩⟩
          · rw [zU_eq]
            exact nx 30 (L1 j (Or.inl q5)).symm
          · rw [zU_eq]
            refine nx _ ?_
            rw [L2 j (by omega), ← hu]
            omega
          · rw [zU_eq]
            exact nx 30 (L1 j (Or.inr q6)).symm
        unfold f_cv at md
        refine sX12_sheet_52 ⟨fun q => by omega, fun q => ⟨fun q5 => ⟨fun q6 => md _ (by rw [if_neg q5, if_neg q6]), fun q6 => md _ (by rw [if_neg q5, if_pos q6])⟩, fun q5 => md _ (by rw [if_pos q5])⟩⟩
    have := lp (N 119 0).toNat 0 N (by omega) (fun _ _ => rfl) (fun i => by rw [if_neg (by omega)])
    rw [A0, F0] at this
    exact this
  refine m_in (fun q => zb1 ⟨fun _ => no (by omega), fun q2 => m_isAnyIn (co := S.1 14) (cn := S.1 15 0) (hC0.W hI) (fun q3 => zb1 (no (fun hh => ?_))) (fun q3 => zb0 ⟨fun q4 => main q (by omega) ?_ (by omega), fun q4 => ⟨fun q5 => main q (by omega) ?_ (by omega), fun q5 => ?_⟩⟩)⟩) (fun q => zb0 (no (by omega)))
  · rw [hC0.1.1] at q3
    exact q3 hh.2.2
  · rw [hC0.1.1] at q3; exact q3
  · rw [hC0.1.1] at q3; exact q3
  · rw [hC0.1.1] at q3
    rw [if_pos ⟨q, by omega, q3⟩, if_neg (by omega), if_pos q5] at h
    exact h N hE hC0
end
