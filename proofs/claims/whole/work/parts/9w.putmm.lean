-- needs 9v
/-! put: the reference's call -/
def pu_o (Y : zM) (e : Int) (s : Nat) : Bool := decide (Y 2 e = -1 ∧ Y 0 (s : Int) = -1 ∧ Y 1 (s : Int) = -1 ∧ Y 8 (s : Int) = 0 ∧ Y 9 e ≤ Y 6 (s : Int))
def pu_Q (Y : zM) (c l : List Int) : zPt := (c.length, (Y 13 0).toNat, fun k s => pu_o Y (c.getD k 0) s && f_let Y (s : Int) (c.getD k 0) true, fun k s => pu_o Y (c.getD k 0) s && f_let Y (s : Int) (c.getD k 0) false, fun j k s => decide (Y 9 (c.getD j 0) + Y 9 (c.getD k 0) ≤ Y 6 (s : Int)) && decide (zix l (c.getD k 0) < zix l (c.getD j 0)), fun s => 4 * f_steps (Y 13 0) (Y 13 0) (s : Int))
def o_put (S : zS) : Int × zS :=
  if S.2.2.2.1.length = 0 ∨ S.2.2.2.2.1.length < S.2.2.2.1.length then (-1, S)
  else if pt_W (pu_Q S.1 S.2.2.2.1 S.2.2.2.2.1) S.2.2.2.1.length pt_z0 < 1000000 then (pt_W (pu_Q S.1 S.2.2.2.1 S.2.2.2.2.1) S.2.2.2.1.length pt_z0, sR S (pt_R (pu_Q S.1 S.2.2.2.1 S.2.2.2.2.1) S.2.2.2.1.length pt_z0))
  else (-2, S)
theorem zB_0 (b : Bool) : (zB b = 0 ↔ b = false) ∧ (zB b = 0 ∨ zB b = 1) := by cases b <;> simp [zB]
theorem zli_d {f : Int → Int} {l : List Int} (h : zli f l) {k : Nat} (hk : k < l.length) : f (k : Int) = l.getD k 0 := by
  refine h k _ ?_
  rw [List.getD_eq_getElem?_getD, List.getElem?_eq_getElem hk]
  rfl
/-- a row of the reference's notes, up to a stall -/
def pm_r (N : zM) (Q : zPt) (k s : Nat) : Prop := (∀ x : Nat, x < s → N 144 ((23 * k + x : Nat) : Int) = zB (pt_B Q k x) ∧ N 145 ((23 * k + x : Nat) : Int) = zB (pt_F Q k x)) ∧ ((N 146 (k : Int) = -1 ∧ ∀ x : Nat, x < s → pt_B Q k x = false ∧ pt_F Q k x = false) ∨ ((0 ≤ N 146 (k : Int) ∧ N 146 (k : Int) ≤ 100) ∧ ∀ x : Nat, x < s → (pt_B Q k x = true ∨ pt_F Q k x = true) → N 146 (k : Int) ≤ pt_c Q x))
theorem pm_r.same {N M : zM} {Q : zPt} {k s : Nat} (h : pm_r N Q k s) (e1 : ∀ x : Nat, x < s → M 144 ((23 * k + x : Nat) : Int) = N 144 ((23 * k + x : Nat) : Int) ∧ M 145 ((23 * k + x : Nat) : Int) = N 145 ((23 * k + x : Nat) : Int)) (e2 : M 146 (k : Int) = N 146 (k : Int)) : pm_r M Q k s := by
  unfold pm_r at *
  rw [e2]
  exact ⟨fun x hx => by rw [(e1 x hx).1, (e1 x hx).2]; exact h.1 x hx, h.2⟩
section
variable {g : zG} {d : Nat} {K : Option zV → zM → Prop} {μ : zM} {nn : Int} {S : zS}
theorem M_put (hd : 340 ≤ d) (hC : mS μ S) (hI : iS nn S) (h : ∀ μ', zEd μ' μ → mS μ' (o_put S).2 → K (some (.inl (o_put S).1)) μ') : zCall g d 236 [.inr (.inr ((0, 12), 119))] μ K := by
  have w := hI.env
  have hC0 : mS (zU μ 119 33 0) S := hC.thr
  have hE0 : zEd (zU μ 119 33 0) μ := (zEd.refl μ).u (by omega)
  have iB' := hI.2.2.2.2.1
  have b0 := hC.2.2.2.1
  unfold o_put at h
  obtain ⟨c, ec⟩ : ∃ c, S.2.2.2.1 = c := ⟨_, rfl⟩
  obtain ⟨l, el⟩ : ∃ l, S.2.2.2.2.1 = l := ⟨_, rfl⟩
  rw [ec, el] at h b0 iB'
  obtain ⟨Q, hQ⟩ : ∃ Q, pu_Q S.1 c l = Q := ⟨_, rfl⟩
  rw [hQ] at h
  obtain ⟨n, en⟩ : ∃ n : Nat, S.1 13 0 = (n : Int) := ⟨(S.1 13 0).toNat, by omega⟩
  have em : pt_m Q = c.length := by rw [← hQ]; rfl
  have enQ : pt_n Q = n := by
    rw [← hQ]
    show (S.1 13 0).toNat = n
    omega
  have eB : ∀ k s : Nat, pt_B Q k s = (pu_o S.1 (c.getD k 0) s && f_let S.1 (s : Int) (c.getD k 0) true) := fun k s => by rw [← hQ]; rfl
  have eF : ∀ k s : Nat, pt_F Q k s = (pu_o S.1 (c.getD k 0) s && f_let S.1 (s : Int) (c.getD k 0) false) := fun k s => by rw [← hQ]; rfl
  have ecs : ∀ s : Nat, pt_c Q s = 4 * f_steps (n : Int) (n : Int) (s : Int) := fun s => by
    rw [← hQ]
    show 4 * f_steps (S.1 13 0) (S.1 13 0) (s : Int) = _
    rw [en]
  have cl6 : c.length ≤ 6 := iB'.1
  have lc : l.length ≤ c.length := l_le l c iB'.2.2.2.1 iB'.2.2.2.2
  have cr : ∀ k : Nat, k < c.length → 0 ≤ c.getD k 0 ∧ c.getD k 0 < S.1 13 3 := fun k hk => iB'.2.2.1 _ (by rw [List.getD_eq_getElem?_getD, List.getElem?_eq_getElem hk]; exact List.getElem_mem hk)
  have n23 : 4 ≤ n ∧ n ≤ 23 := by omega
  have mb : ∀ N, mS N S → (N 119 23 = (c.length : Int) ∧ zli (N 136) c) ∧ N 119 25 = (l.length : Int) ∧ zli (N 137) l := fun N hN => by
    have := hN.2.2.2.1
    rw [ec, el] at this
    exact this
  -- told
  have tell : ∀ (k i : Nat) (N : zM) (r : List Int), i + k = c.length → zEd N μ → mS N (sR S r) → mR N r → r.length = i → pt_R Q c.length pt_z0 = r ++ (pt_R Q c.length pt_z0).drop i → (∀ j : Nat, j < c.length → N 142 (j : Int) = (pt_R Q c.length pt_z0).getD j 0) → (pt_R Q c.length pt_z0).length = c.length → N 119 55 = pt_W Q c.length pt_z0 → (∀ μ', zEd μ' μ → mS μ' (sR S (pt_R Q c.length pt_z0)) → K (some (.inl (pt_W Q c.length pt_z0))) μ') → zT g d mX12_put K 371 [some (.inr (.inr ((0, 12), 119))), none, some (.inl (i : Int)), none, none, none, none] [] N := by
    intro k
    induction k with
    | zero =>
      intro i N r hi hE hCN hr hl he h142 hlen h55 hfin
      have n23' : N 119 23 = (c.length : Int) := by
        have := hCN.2.2.2.1
        have : mB N c l := by rw [← ec, ← el]; exact this
        exact this.1.1
      rw [List.drop_eq_nil_of_le (by omega), List.append_nil] at he
      refine sX12_put_371 ⟨fun _ => ?_, fun q => by omega⟩
      rw [h55]
      exact hfin N hE (by rw [he]; exact hCN)
    | succ k ih =>
      intro i N r hi hE hCN hr hl he h142 hlen h55 hfin
      have n23' : N 119 23 = (c.length : Int) := by
        have := hCN.2.2.2.1
        have : mB N c l := by rw [← ec, ← el]; exact this
        exact this.1.1
      refine sX12_put_371 ⟨fun q => by omega, fun _ => ⟨by omega, by omega, m_tellR hr (by omega) (fun T hT hrT => zn ?_)⟩⟩
      rw [zw_suc (by omega)]
      rw [h142 i (by omega)] at hrT
      have hCT : mS T (sR S (r ++ [(pt_R Q c.length pt_z0).getD i 0])) := hCN.row (fun j _ hj => hT.1 j hj) (fun i _ hi => hT.2 i hi) hrT
      refine ih (i + 1) T _ (by omega) (fun j hj => by rw [hT.1 j (by omega)]; exact hE j hj) hCT hrT (by simp [hl]) ?_ (fun j hj => by rw [hT.1 142 (by omega)]; exact h142 j hj) hlen (by rw [hT.2 55 (by omega)]; exact h55) hfin
      have lt : i < (pt_R Q c.length pt_z0).length := by omega
      have dr : (pt_R Q c.length pt_z0).drop i = (pt_R Q c.length pt_z0).getD i 0 :: (pt_R Q c.length pt_z0).drop (i + 1) := by
        rw [List.drop_eq_getElem_cons lt, List.getD_eq_getElem?_getD, List.getElem?_eq_getElem lt]
        rfl
      rw [List.append_assoc]
      rw [dr] at he
      exact he
  have rows : ∀ (f k : Nat) (N : zM) (x1 : Int), k + f = c.length → 1 ≤ c.length → c.length ≤ l.length → zEd N μ → mS N S → pm_z N Q pt_z0 → (∀ k' : Nat, k' < k → pm_r N Q k' n) → ((x1 = 1 ∧ ∀ k' : Nat, k' < k → ¬ N 146 (k' : Int) = -1) ∨ (x1 = 0 ∧ ∃ k' : Nat, k' < k ∧ N 146 (k' : Int) = -1)) → zT g d mX12_put K 57 [some (.inr (.inr ((0, 12), 119))), some (.inl x1), some (.inl (k : Int)), none, none, none, none] [] N := by
    intro f
    induction f with
    | zero =>
      intro k N x1 hk hm hlv hE hCN hz hrows hx1
      obtain rfl : k = c.length := by omega
      have b := mb N hCN
      rw [if_neg (by omega)] at h
      obtain ⟨opt1, opt2⟩ := pt_opt (Q := Q) (by rw [em]; exact cl6) (by rw [enQ]; omega) (fun s hs => by rw [enQ] at hs; rw [ecs s]; unfold f_steps; omega)
      rw [em] at opt1 opt2
      refine sX12_put_57 ⟨fun _ => ⟨fun q => ?_, fun q => ⟨by omega, ?_⟩⟩, fun q => by omega⟩
      · rcases hx1 with ⟨q1, _⟩ | ⟨_, k', hk', q1⟩
        · omega
        · have rk := hrows k' hk'
          have no : ¬ pt_W Q c.length pt_z0 < 1000000 := fun hlt => by
            obtain ⟨a0, all0, _⟩ := opt2 hlt
            obtain ⟨s, hs, _, hor⟩ := all0 k' (by rw [em]; exact hk')
            rw [enQ] at hs
            rcases rk.2 with ⟨_, r2⟩ | ⟨r1, _⟩
            · have := r2 s hs
              rcases hor with ⟨_, hB⟩ | ⟨_, _, _, _, hF, _⟩
              · rw [this.1] at hB; cases hB
              · rw [this.2] at hF; cases hF
            · omega
          rw [if_neg no] at h
          exact h _ (fun j hj => by rw [zU_off j (by omega)]; exact hE j hj) (hCN.scr (fun j _ hj => zU_off j hj) (fun i hi => zU_ne (by unfold z_scs at hi; omega)))
      · have ok : pm_ok (zU N 119 55 1000000) Q c l S.1 := by
          have o9 : ∀ i, ¬ i = 55 → zU N 119 55 1000000 119 i = N 119 i := fun i hi => zU_ne (by omega)
          have oj : ∀ j, ¬ j = 119 → zU N 119 55 1000000 j = N j := fun j hj => zU_off j hj
          have evn := hCN.env
          refine ⟨⟨by rw [o9 23 (by omega), em]; exact b.1.1, by rw [o9 0 (by omega), enQ, evn.1, en]⟩, fun k s hk' hs => ?_, fun k hk' => ?_, fun k hk' => ?_, fun e he => ?_, fun s hs => ?_, ⟨by rw [o9 25 (by omega)]; exact b.2.1, by rw [oj 137 (by omega)]; exact b.2.2, by omega⟩, fun j k s _ _ _ => by rw [← hQ]; rfl⟩
          · rw [oj 144 (by omega), oj 145 (by omega)]
            rw [em] at hk'
            rw [enQ] at hs
            exact (hrows k hk').1 s hs
          · rw [em] at hk'
            rw [oj 146 (by omega), enQ]
            rcases hx1 with ⟨_, q1⟩ | ⟨q1, _⟩
            · rcases (hrows k hk').2 with ⟨r1, _⟩ | r2
              · exact absurd r1 (q1 k hk')
              · exact r2
            · exact absurd q1 q
          · rw [em] at hk'
            rw [oj 136 (by omega)]
            have := cr k hk'
            exact ⟨zli_d b.1.2 hk', by omega, by omega⟩
          · rw [oj 125 (by omega)]
            have := (hCN.en1 he).1
            have y := (hI.W.2.2.2 e he).1
            exact ⟨this, by omega, by omega⟩
          · rw [oj 120 (by omega)]
            have : vM N (S.1 14) (S.1 15 0) 6 s = N 120 s := y_in hs
            rw [← this, hCN.1.1]
        have hz2 : pm_z (zU N 119 55 1000000) Q pt_z0 := fun s hs => by rw [zU_off 147 (by omega), zU_off 148 (by omega)]; exact hz s hs
        have hw0 : pm_w Q 0 pt_z0 := fun s _ => ⟨⟨by show -1 ≤ (-1 : Int); omega, by show (-1 : Int) < 0; omega⟩, ⟨by show -1 ≤ (-1 : Int); omega, by show (-1 : Int) < 0; omega⟩⟩
        have hcs' : ∀ s : Nat, pt_c Q s = 4 * f_steps (pt_n Q : Int) (pt_n Q : Int) (s : Int) := fun s => by rw [enQ]; exact ecs s
        have ewm : pt_m Q - c.length = 0 := by rw [em]; omega
        have fs := m_findSum (g := g) (Y := S.1) (Q := Q) (c := c) (l := l) (by rw [em]; exact cl6) (by rw [enQ]; omega) hcs' c.length (d - 1) (zU N 119 55 1000000) pt_z0 0
        rw [ewm] at fs
        refine fs _ (by rw [em]; exact Nat.le_refl _) (by omega) ok hz2 hw0 (by rw [em]; omega) (by rw [zU_eq]; exact Int.le_refl _) (fun M hM m142 hzM mL => zn ?_)
        rw [zU_eq, Int.zero_add] at mL
        have hEM : zEd M μ := fun j hj => by rw [hM.1 j (by omega), zU_off j (by omega)]; exact hE j hj
        have hCM : mS M S := hCN.scr (fun j hs hj => by unfold z_scm at hs; rw [hM.1 j (by omega), zU_off j hj]) (fun i hi => by unfold z_scs at hi; rw [hM.2 i (by omega), zU_ne (by omega)])
        have Wle : pt_W Q c.length pt_z0 ≤ 1000000 := by
          obtain ⟨m', hm'⟩ : ∃ m', c.length = m' + 1 := ⟨c.length - 1, by omega⟩
          rw [hm']
          exact pt_W_le
        refine ⟨fun q2 => ?_, fun q2 => ?_⟩
        · rw [if_pos (by omega)] at h
          have fr := m_findRow (g := g) (Y := S.1) (Q := Q) (c := c) (l := l) (by rw [em]; exact cl6) (by rw [enQ]; omega) hcs' c.length (d - 1) M pt_z0 0
          rw [ewm] at fr
          have fin : ∀ T, zEpt T M → T 119 = M 119 → (∀ i : Nat, i < c.length → T 142 ((0 + i : Nat) : Int) = (pt_R Q c.length pt_z0).getD i 0) → zT g d mX12_put K 371 [some (.inr (.inr ((0, 12), 119))), none, some (.inl 0), none, none, none, none] [] (zU T 119 32 0) := by
            intro T hT t119 t142
            have hCT : mS T S := hCM.scr (fun j hs hj => by unfold z_scm at hs; exact hT.1 j (by omega)) (fun i hi => by rw [t119])
            have hCT2 : mS (zU T 119 32 0) (sR S []) := hCT.row (fun j _ hj => zE32_0.1 j hj) (fun i _ hi => zE32_0.2 i hi) mR_0
            have v2 := (pt_A2 Q (fun s hs => by rw [enQ] at hs; rw [ecs s]; unfold f_steps; omega) c.length pt_z0 (by omega)).1
            refine tell c.length 0 _ [] (by omega) (fun j hj => by rw [zU_off j (by omega), hT.1 j (by omega)]; exact hEM j hj) hCT2 mR_0 rfl rfl (fun j hj => ?_) (pt_V_len _ _ _ v2) ?_ h
            · rw [zU_off 142 (by omega)]
              have := t142 j hj
              rw [Nat.zero_add] at this
              exact this
            · rw [zU_ne (by omega), t119, mL]
              omega
          refine fr _ (by rw [em]; exact Nat.le_refl _) (by omega) (ok.e hM) hzM hw0 (by rw [em]; omega) (by omega) (by omega) (fun _ T hT t119 hzT _ tR => zb1 (fin T hT t119 tR)) (fun hlt => by omega)
        · rw [if_neg (by omega)] at h
          exact h M hEM hCM
    | succ f ih =>
      intro k N x1 hk hm hlv hE hCN hz hrows hx1
      have b := mb N hCN
      have kc : k < c.length := by omega
      have ck := cr k kc
      have e136 : N 136 (k : Int) = c.getD k 0 := zli_d b.1.2 kc
      refine sX12_put_57 ⟨fun q => by omega, fun _ => ⟨by omega, ?_⟩⟩
      rw [e136]
      obtain ⟨e, ee⟩ : ∃ e, c.getD k 0 = e := ⟨_, rfl⟩
      rw [ee] at ck ⊢
      have e12 : 0 ≤ e ∧ e < 12 := by omega
      have stalls : ∀ (f2 s : Nat) (M : zM), s + f2 = n → zEd M μ → mS M S → pm_z M Q pt_z0 → (∀ k' : Nat, k' < k → pm_r M Q k' n ∧ M 146 (k' : Int) = N 146 (k' : Int)) → pm_r M Q k s → zT g d mX12_put K 82 [some (.inr (.inr ((0, 12), 119))), some (.inl x1), some (.inl (k : Int)), some (.inl e), some (.inl (s : Int)), none, none] [] M := by
        intro f2
        induction f2 with
        | zero =>
          intro s M hs hEM hCM hzM hrM hrk
          obtain rfl : s = n := by omega
          have evM := hCM.env
          have fin : ∀ x1' : Int, ((x1' = 1 ∧ ∀ k' : Nat, k' < k + 1 → ¬ M 146 (k' : Int) = -1) ∨ (x1' = 0 ∧ ∃ k' : Nat, k' < k + 1 ∧ M 146 (k' : Int) = -1)) → zT g d mX12_put K 57 [some (.inr (.inr ((0, 12), 119))), some (.inl x1'), some (.inl (zw ((k : Int) + 1))), none, none, none, none] [] M := by
            intro x1' hx'
            rw [zw_suc (by omega)]
            refine ih (k + 1) M x1' (by omega) hm hlv hEM hCM hzM (fun k' hk' => ?_) hx'
            rcases Nat.lt_or_ge k' k with q | q
            · exact (hrM k' q).1
            · obtain rfl : k' = k := by omega
              exact hrk
          refine sX12_put_82 ⟨fun _ => ⟨fun q => fin 0 ?_, fun q => ⟨by omega, fun q2 => fin 0 (Or.inr ⟨rfl, k, by omega, q2⟩), fun q2 => fin 1 (Or.inl ⟨rfl, fun k' hk' => ?_⟩)⟩⟩, fun q => by omega⟩
          · rcases hx1 with ⟨q1, _⟩ | ⟨_, k', hk', q1⟩
            · omega
            · exact Or.inr ⟨rfl, k', by omega, by rw [(hrM k' hk').2]; exact q1⟩
          · rcases Nat.lt_or_ge k' k with q3 | q3
            · rcases hx1 with ⟨_, q1⟩ | ⟨q1, _⟩
              · rw [(hrM k' q3).2]
                exact q1 k' q3
              · exact absurd q1 q
            · obtain rfl : k' = k := by omega
              exact q2
        | succ f2 ihs =>
          intro s M hs hEM hCM hzM hrM hrk
          have evM := hCM.env
          have sn : s < n := by omega
          have s23 : 0 ≤ (s : Int) ∧ (s : Int) < 23 := by omega
          have enM := hCM.en (e := e) (by omega)
          have stM := hCM.st s23
          have m122 : M 122 (s : Int) = S.1 8 (s : Int) := by
            have : vM M (S.1 14) (S.1 15 0) 8 (s : Int) = M 122 (s : Int) := y_in s23
            rw [← this, hCM.1.1]
          have m120 : M 120 (s : Int) = S.1 6 (s : Int) := by
            have : vM M (S.1 14) (S.1 15 0) 6 (s : Int) = M 120 (s : Int) := y_in s23
            rw [← this, hCM.1.1]
          have ws := hI.W.2.2.1 (s : Int) s23
          have eBs := eB k s
          have eFs := eF k s
          rw [ee] at eBs eFs
          -- how near it is
          have near : ∀ A : zM, zEd A μ → mS A S → pm_z A Q pt_z0 → (∀ k' : Nat, k' < k → pm_r A Q k' n ∧ A 146 (k' : Int) = N 146 (k' : Int)) → pm_r A Q k s → A 144 ((23 * k + s : Nat) : Int) = zB (pt_B Q k s) → ∀ u : Int, u = zB (pt_F Q k s) → zT g d mX12_put K 221 [some (.inr (.inr ((0, 12), 119))), some (.inl x1), some (.inl (k : Int)), some (.inl e), some (.inl (s : Int)), none, none] [.inl u, .inl ((23 * k + s : Nat) : Int), .inr (.inr ((2, 138), 145))] A := by
            intro A hEA hCA hzA hrA hrkA a144 u hu
            have evA := hCA.env
            refine sX12_put_221 ⟨by omega, by rw [hu]; exact (zB_0 _).2, by omega, ?_⟩
            rw [evA.1, en]
            generalize hD : zU A 145 ((23 * k + s : Nat) : Int) u = D
            have dj : ∀ j, ¬ j = 145 → D j = A j := fun j hj => by rw [← hD, zU_off j hj]
            have d145 : D 145 ((23 * k + s : Nat) : Int) = zB (pt_F Q k s) := by rw [← hD, zU_eq, hu]
            have dO : ∀ x : Int, ¬ x = ((23 * k + s : Nat) : Int) → D 145 x = A 145 x := fun x hx => by rw [← hD, zU_ne (by omega)]
            have hED : zEd D μ := fun j hj => by rw [dj j (by omega)]; exact hEA j hj
            have hCD : mS D S := hCA.scr (fun j hs' hj => by unfold z_scm at hs'; exact dj j (by omega)) (fun i _ => by rw [dj 119 (by omega)])
            have hzD : pm_z D Q pt_z0 := fun x hx => by rw [dj 147 (by omega), dj 148 (by omega)]; exact hzA x hx
            have d0 : D 119 0 = (n : Int) := by rw [dj 119 (by omega), evA.1, en]
            refine m_steps (by omega) (by rw [d0]; omega) (by omega) (by omega) (zi ?_)
            rw [d0]
            have fb : 0 ≤ f_steps (n : Int) (n : Int) (s : Int) ∧ f_steps (n : Int) (n : Int) (s : Int) ≤ 24 := by
              unfold f_steps
              omega
            rw [zwi (x := 4 * f_steps (n : Int) (n : Int) (s : Int)) (by omega) (by omega), ← ecs s, zwi (x := 23 * (k : Int)) (by omega) (by omega), zwi (x := 23 * (k : Int) + (s : Int)) (by omega) (by omega), show 23 * (k : Int) + (s : Int) = ((23 * k + s : Nat) : Int) from by omega, zw_suc (by omega), dj 144 (by omega), a144, d145, dj 146 (by omega)]
            have cb : 0 ≤ pt_c Q s ∧ pt_c Q s ≤ 96 := by rw [ecs s]; omega
            -- on
            have on : ∀ D2 : zM, (∀ j, ¬ j = 146 → D2 j = D j) → (∀ x : Int, ¬ x = (k : Int) → D2 146 x = A 146 x) → ((D2 146 (k : Int) = -1 ∧ ∀ x : Nat, x < s + 1 → pt_B Q k x = false ∧ pt_F Q k x = false) ∨ ((0 ≤ D2 146 (k : Int) ∧ D2 146 (k : Int) ≤ 100) ∧ ∀ x : Nat, x < s + 1 → (pt_B Q k x = true ∨ pt_F Q k x = true) → D2 146 (k : Int) ≤ pt_c Q x)) → zT g d mX12_put K 82 [some (.inr (.inr ((0, 12), 119))), some (.inl x1), some (.inl (k : Int)), some (.inl e), some (.inl ((s + 1 : Nat) : Int)), none, none] [] D2 := by
              intro D2 a1 a2 a3
              refine ihs (s + 1) D2 (by omega) (fun j hj => by rw [a1 j (by omega)]; exact hED j hj) (hCD.scr (fun j hs' hj => by unfold z_scm at hs'; exact a1 j (by omega)) (fun i _ => by rw [a1 119 (by omega)])) (fun x hx => by rw [a1 147 (by omega), a1 148 (by omega)]; exact hzD x hx) (fun k' hk' => ⟨(hrA k' hk').1.same (fun x hx => ⟨by rw [a1 144 (by omega), dj 144 (by omega)], by rw [a1 145 (by omega), dO _ (by omega)]⟩) (a2 _ (by omega)), by rw [a2 _ (by omega)]; exact (hrA k' hk').2⟩) ⟨fun x hx => ?_, a3⟩
              rw [a1 144 (by omega), a1 145 (by omega), dj 144 (by omega)]
              rcases Nat.lt_or_ge x s with q | q
              · rw [dO _ (by omega)]
                exact hrkA.1 x q
              · obtain rfl : x = s := by omega
                exact ⟨a144, d145⟩
            have r2 := hrkA.2
            have keep : (A 146 (k : Int) = -1 → pt_B Q k s = false ∧ pt_F Q k s = false) → (¬ A 146 (k : Int) = -1 → (pt_B Q k s = true ∨ pt_F Q k s = true) → A 146 (k : Int) ≤ pt_c Q s) → zT g d mX12_put K 82 [some (.inr (.inr ((0, 12), 119))), some (.inl x1), some (.inl (k : Int)), some (.inl e), some (.inl ((s + 1 : Nat) : Int)), none, none] [] D := by
              intro k1 k2
              refine on D (fun _ _ => rfl) (fun x _ => by rw [dj 146 (by omega)]) ?_
              rw [dj 146 (by omega)]
              rcases r2 with ⟨q1, q2⟩ | ⟨q1, q2⟩
              · refine Or.inl ⟨q1, fun x hx => ?_⟩
                rcases Nat.lt_or_ge x s with q | q
                · exact q2 x q
                · obtain rfl : x = s := by omega
                  exact k1 q1
              · refine Or.inr ⟨q1, fun x hx hor => ?_⟩
                rcases Nat.lt_or_ge x s with q | q
                · exact q2 x q hor
                · obtain rfl : x = s := by omega
                  exact k2 (by omega) hor
            have take : (¬ A 146 (k : Int) = -1 → pt_c Q s < A 146 (k : Int)) → zT g d mX12_put K 82 [some (.inr (.inr ((0, 12), 119))), some (.inl x1), some (.inl (k : Int)), some (.inl e), some (.inl ((s + 1 : Nat) : Int)), none, none] [] (zU D 146 (k : Int) (pt_c Q s)) := by
              intro k1
              refine on _ (fun j hj => zU_off j hj) (fun x hx => by rw [zU_ne (by omega), dj 146 (by omega)]) (Or.inr ?_)
              rw [zU_eq]
              refine ⟨by omega, fun x hx hor => ?_⟩
              rcases Nat.lt_or_ge x s with q | q
              · rcases r2 with ⟨q1, q2⟩ | ⟨q1, q2⟩
                · have := q2 x q
                  rcases hor with hor | hor
                  · rw [this.1] at hor; cases hor
                  · rw [this.2] at hor; cases hor
                · have := q2 x q hor
                  have := k1 (by omega)
                  omega
              · obtain rfl : x = s := by omega
                exact Int.le_refl _
            have upd : (A 146 (k : Int) = -1 → zT g d mX12_put K 82 [some (.inr (.inr ((0, 12), 119))), some (.inl x1), some (.inl (k : Int)), some (.inl e), some (.inl ((s + 1 : Nat) : Int)), none, none] [] (zU D 146 (k : Int) (pt_c Q s))) ∧ (¬ A 146 (k : Int) = -1 → (A 146 (k : Int) ≤ pt_c Q s → zT g d mX12_put K 82 [some (.inr (.inr ((0, 12), 119))), some (.inl x1), some (.inl (k : Int)), some (.inl e), some (.inl ((s + 1 : Nat) : Int)), none, none] [] D) ∧ (pt_c Q s < A 146 (k : Int) → zT g d mX12_put K 82 [some (.inr (.inr ((0, 12), 119))), some (.inl x1), some (.inl (k : Int)), some (.inl e), some (.inl ((s + 1 : Nat) : Int)), none, none] [] (zU D 146 (k : Int) (pt_c Q s)))) :=
              ⟨fun q => take (fun hh => absurd q hh), fun q => ⟨fun q2 => keep (fun hh => absurd hh q) (fun _ _ => q2), fun q2 => take (fun _ => q2)⟩⟩
            refine ⟨by omega, fun _ => ⟨by omega, upd⟩, fun q => ⟨fun q2 => ?_, fun _ => ⟨by omega, upd⟩⟩⟩
            have fB := (zB_0 _).1.1 q
            have fF := (zB_0 _).1.1 q2
            exact keep (fun _ => ⟨fB, fF⟩) (fun _ hor => by
              rcases hor with hor | hor
              · rw [fB] at hor; cases hor
              · rw [fF] at hor; cases hor)
          -- what may be there
          have may : ∀ (M2 : zM) (v : Int), zEd M2 μ → mS M2 S → M2 144 = M 144 → M2 145 = M 145 → M2 146 = M 146 → M2 147 = M 147 → M2 148 = M 148 → v = zB (pt_B Q k s) → zEd (zU M2 144 ((23 * k + s : Nat) : Int) v) μ ∧ mS (zU M2 144 ((23 * k + s : Nat) : Int) v) S ∧ pm_z (zU M2 144 ((23 * k + s : Nat) : Int) v) Q pt_z0 ∧ (∀ k' : Nat, k' < k → pm_r (zU M2 144 ((23 * k + s : Nat) : Int) v) Q k' n ∧ zU M2 144 ((23 * k + s : Nat) : Int) v 146 (k' : Int) = N 146 (k' : Int)) ∧ pm_r (zU M2 144 ((23 * k + s : Nat) : Int) v) Q k s ∧ zU M2 144 ((23 * k + s : Nat) : Int) v 144 ((23 * k + s : Nat) : Int) = zB (pt_B Q k s) := by
            intro M2 v a1 a2 a3 a4 a5 a6 a7 hv
            refine ⟨fun j hj => by rw [zU_off j (by omega)]; exact a1 j hj, a2.scr (fun j hs' hj => by unfold z_scm at hs'; exact zU_off j (by omega)) (fun i _ => by rw [zU_off 119 (by omega)]), fun x hx => by rw [zU_off 147 (by omega), zU_off 148 (by omega), a6, a7]; exact hzM x hx, fun k' hk' => ⟨(hrM k' hk').1.same (fun x hx => ⟨by rw [zU_ne (by omega), a3], by rw [zU_off 145 (by omega), a4]⟩) (by rw [zU_off 146 (by omega), a5]), by rw [zU_off 146 (by omega), a5]; exact (hrM k' hk').2⟩, hrk.same (fun x hx => ⟨by rw [zU_ne (by omega), a3], by rw [zU_off 145 (by omega), a4]⟩) (by rw [zU_off 146 (by omega), a5]), by rw [zU_eq, hv]⟩
          -- whether it is free
          have free : ∀ b' : Bool, pu_o S.1 e s = b' → zT g d mX12_put K 154 [some (.inr (.inr ((0, 12), 119))), some (.inl x1), some (.inl (k : Int)), some (.inl e), some (.inl (s : Int)), none, none] [.inl (zB b')] M := by
            intro b' hb'
            rw [hb'] at eBs eFs
            refine sX12_put_154 ⟨fun q => ?_, fun q => ⟨by omega, ?_⟩⟩
            · have bf := (zB_0 b').1.1 q
              rw [bf, Bool.false_and] at eBs eFs
              rw [zwi (x := 23 * (k : Int)) (by omega) (by omega), zwi (x := 23 * (k : Int) + (s : Int)) (by omega) (by omega), show 23 * (k : Int) + (s : Int) = ((23 * k + s : Nat) : Int) from by omega]
              obtain ⟨y1, y2, y3, y4, y5, y6⟩ := may M 0 hEM hCM rfl rfl rfl rfl rfl (by rw [eBs]; rfl)
              exact ⟨by omega, near _ y1 y2 y3 y4 y5 y6 0 (by rw [eFs]; rfl)⟩
            · have bt : b' = true := by
                cases hh : b'
                · rw [hh] at q; exact absurd rfl q
                · rfl
              rw [bt, Bool.true_and] at eBs eFs
              -- its front
              have front : ∀ (M2 : zM) (v : Int), zEm M2 M → v = zB (pt_B Q k s) → (0 ≤ zw (zw (23 * (k : Int)) + (s : Int)) ∧ zw (zw (23 * (k : Int)) + (s : Int)) < 138) ∧ zCall g (d - 1) 191 [.inr (.inr ((0, 12), 119)), .inl e, .inl (s : Int), .inl 0] (zU M2 144 (zw (zw (23 * (k : Int)) + (s : Int))) v) (zBz (fun μ3 => zT g d mX12_put K 221 [some (.inr (.inr ((0, 12), 119))), some (.inl x1), some (.inl (k : Int)), some (.inl e), some (.inl (s : Int)), none, none] [.inl 1, .inl (zw (zw (23 * (k : Int)) + (s : Int))), .inr (.inr ((2, 138), 145))] μ3) (fun μ3 => zT g d mX12_put K 221 [some (.inr (.inr ((0, 12), 119))), some (.inl x1), some (.inl (k : Int)), some (.inl e), some (.inl (s : Int)), none, none] [.inl 0, .inl (zw (zw (23 * (k : Int)) + (s : Int))), .inr (.inr ((2, 138), 145))] μ3)) := by
                intro M2 v hM2 hv
                rw [zwi (x := 23 * (k : Int)) (by omega) (by omega), zwi (x := 23 * (k : Int) + (s : Int)) (by omega) (by omega), show 23 * (k : Int) + (s : Int) = ((23 * k + s : Nat) : Int) from by omega]
                obtain ⟨y1, y2, y3, y4, y5, y6⟩ := may M2 v (fun j hj => by rw [hM2.1 j (by omega)]; exact hEM j hj) (hCM.m hM2) (hM2.1 144 (by omega)) (hM2.1 145 (by omega)) (hM2.1 146 (by omega)) (hM2.1 147 (by omega)) (hM2.1 148 (by omega)) hv
                generalize zU M2 144 ((23 * k + s : Nat) : Int) v = A at *
                have after : ∀ (A2 : zM) (u : Int), zEm A2 A → u = zB (pt_F Q k s) → zT g d mX12_put K 221 [some (.inr (.inr ((0, 12), 119))), some (.inl x1), some (.inl (k : Int)), some (.inl e), some (.inl (s : Int)), none, none] [.inl u, .inl ((23 * k + s : Nat) : Int), .inr (.inr ((2, 138), 145))] A2 := by
                  intro A2 u hA2 hu
                  refine near A2 (fun j hj => by rw [hA2.1 j (by omega)]; exact y1 j hj) (y2.m hA2) (fun x hx => by rw [hA2.1 147 (by omega), hA2.1 148 (by omega)]; exact y3 x hx) (fun k' hk' => ⟨(y4 k' hk').1.same (fun x hx => ⟨by rw [hA2.1 144 (by omega)], by rw [hA2.1 145 (by omega)]⟩) (by rw [hA2.1 146 (by omega)]), by rw [hA2.1 146 (by omega)]; exact (y4 k' hk').2⟩) (y5.same (fun x hx => ⟨by rw [hA2.1 144 (by omega)], by rw [hA2.1 145 (by omega)]⟩) (by rw [hA2.1 146 (by omega)])) (by rw [hA2.1 144 (by omega)]; exact y6) u hu
                refine ⟨by omega, m_isLet (co := S.1 14) (cn := S.1 15 0) (bb := false) (by omega) (y2.W hI) y2.1.2.1 (by rw [y2.env.2.2.2.1]; omega) s23 rfl (fun A2 hA2 hl => zb1 (after A2 1 hA2 ?_)) (fun A2 hA2 hl => zb0 (after A2 0 hA2 ?_))⟩
                · rw [y2.1.1] at hl
                  rw [eFs, hl]
                  rfl
                · rw [y2.1.1] at hl
                  rw [eFs, hl]
                  rfl
              refine m_isLet (co := S.1 14) (cn := S.1 15 0) (bb := true) (by omega) (hCM.W hI) hCM.1.2.1 (by rw [hCM.env.2.2.2.1]; omega) s23 rfl (fun M2 hM2 hl => zb1 (front M2 1 hM2 ?_)) (fun M2 hM2 hl => zb0 (front M2 0 hM2 ?_))
              · rw [hCM.1.1] at hl
                rw [eBs, hl]
                rfl
              · rw [hCM.1.1] at hl
                rw [eBs, hl]
                rfl
          have f0 := fun hno => free false (decide_eq_false hno)
          have f1 := fun hyes => free true (decide_eq_true hyes)
          refine sX12_put_82 ⟨fun q => by omega, fun _ => ⟨by omega, fun q => f0 (fun hh => ?_), fun q => ⟨by omega, fun q2 => f0 (fun hh => ?_), fun q2 => ⟨fun q3 => f0 (fun hh => ?_), fun q3 => ⟨fun q4 => f0 (fun hh => ?_), fun q4 => ⟨fun q5 => f0 (fun hh => ?_), fun q5 => f1 ?_⟩⟩⟩⟩⟩⟩
          · rw [enM.1] at q
            exact q hh.1
          · rw [stM.1] at q2
            exact q2 hh.2.1
          · rw [stM.2] at q3
            exact q3 hh.2.2.1
          · rw [m122] at q4
            exact q4 hh.2.2.2.1
          · rw [m120, enM.2.2.1] at q5
            have := hh.2.2.2.2
            omega
          · rw [enM.1] at q
            rw [stM.1] at q2
            rw [stM.2] at q3
            rw [m122] at q4
            rw [m120, enM.2.2.1] at q5
            exact ⟨q, q2, q3, q4, q5⟩
      refine stalls n 0 _ (by omega) (fun j hj => by rw [zU_off j (by omega)]; exact hE j hj) (hCN.scr (fun j hs' hj => by unfold z_scm at hs'; exact zU_off j (by omega)) (fun i _ => by rw [zU_off 119 (by omega)])) (fun x hx => by rw [zU_off 147 (by omega), zU_off 148 (by omega)]; exact hz x hx) (fun k' hk' => ⟨(hrows k' hk').same (fun x hx => ⟨by rw [zU_off 144 (by omega)], by rw [zU_off 145 (by omega)]⟩) (by rw [zU_ne (by omega)]), by rw [zU_ne (by omega)]⟩) ⟨fun x hx => by omega, Or.inl ⟨zU_eq, fun x hx => by omega⟩⟩
  have init : ∀ (f i : Nat) (N : zM), i + f = 23 → 1 ≤ c.length → c.length ≤ l.length → zEd N μ → mS N S → (∀ x : Int, 0 ≤ x ∧ x < (i : Int) → N 147 x = -1 ∧ N 148 x = -1) → zT g d mX12_put K 29 [some (.inr (.inr ((0, 12), 119))), some (.inl 1), some (.inl (i : Int)), none, none, none, none] [] N := by
    intro f
    induction f with
    | zero =>
      intro i N hi hm hlv hE hCN hz
      refine sX12_put_29 ⟨fun _ => ?_, fun q => by omega⟩
      exact rows c.length 0 N 1 (by omega) hm hlv hE hCN (fun s hs => by rw [enQ] at hs; exact hz (s : Int) (by omega)) (fun k' hk' => by omega) (Or.inl ⟨rfl, fun k' hk' => by omega⟩)
    | succ f ih =>
      intro i N hi hm hlv hE hCN hz
      refine sX12_put_29 ⟨fun q => by omega, fun _ => ⟨by omega, ?_⟩⟩
      rw [zw_suc (by omega)]
      refine ih (i + 1) _ (by omega) hm hlv (fun j hj => by rw [zU_off j (by omega), zU_off j (by omega)]; exact hE j hj) (hCN.scr (fun j hs' hj => by unfold z_scm at hs'; rw [zU_off j (by omega), zU_off j (by omega)]) (fun i _ => by rw [zU_off 119 (by omega), zU_off 119 (by omega)])) (fun x hx => ?_)
      by_cases q : x = (i : Int)
      · subst q
        rw [zU_off 147 (by omega), zU_eq, zU_eq]
        exact ⟨rfl, rfl⟩
      · rw [zU_off 147 (by omega), zU_ne (by omega), zU_ne (by omega), zU_off 148 (by omega)]
        exact hz x (by omega)
  have b := mb μ hC
  refine sX12_put ⟨fun q => ?_, fun q => ⟨fun q2 => init 23 0 _ (by omega) (by omega) (by omega) hE0 hC0 (fun x hx => by omega), fun q2 => ?_⟩⟩
  · rw [if_pos (Or.inl (by omega))] at h
    exact h _ hE0 hC0
  · rw [if_pos (Or.inr (by omega))] at h
    exact h _ hE0 hC0
end
