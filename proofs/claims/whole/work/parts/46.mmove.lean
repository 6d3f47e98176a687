-- needs 20.walks 30 31 32 33 34 35 36 37 38 39 40 41 42 43 44 45 21.s06 21.s07
/-! the reference moves engines, and puts them back -/
section
variable {μ : zM} {co : Int → Int} {cn i v : Int}
theorem vM_k {μ' : zM} {k : Nat} (h : (k = 0 → μ' 123 = μ 123) ∧ (k = 1 → μ' 124 = μ 124) ∧ (k = 2 → μ' 130 = μ 130) ∧ (k = 3 → μ' 131 = μ 131) ∧ (k = 4 → μ' 129 = μ 129) ∧ (k = 5 → μ' 119 14 = μ 119 14 ∧ μ' 119 15 = μ 119 15)) (h1 : ∀ j, 120 ≤ j → j ≤ 122 → μ' j = μ j) (h3 : ∀ j, 125 ≤ j → j ≤ 128 → μ' j = μ j) (h2 : ∀ i, i = 0 ∨ i = 6 ∨ i = 16 ∨ i = 17 → μ' 119 i = μ 119 i) : vM μ' co cn k = vM μ co cn k := by
  obtain ⟨a0, a1, a2, a3, a4, a5⟩ := h
  funext x
  match k with
  | 0 => simp only [vM]; rw [a0 rfl]
  | 1 => simp only [vM]; rw [a1 rfl]
  | 2 => simp only [vM]; rw [a2 rfl, h2 6 (by omega)]
  | 3 => simp only [vM]; rw [a3 rfl, h2 6 (by omega)]
  | 4 => simp only [vM]; rw [a4 rfl]
  | 5 =>
    simp only [vM, y_cl]
    split
    · have : x = 0 ∨ x = 1 := by omega
      rcases this with rfl | rfl
      · exact (a5 rfl).1
      · exact (a5 rfl).2
    · rfl
  | 6 => simp only [vM]; rw [h1 120 (by omega) (by omega)]
  | 7 => simp only [vM]; rw [h1 121 (by omega) (by omega)]
  | 8 => simp only [vM]; rw [h1 122 (by omega) (by omega)]
  | 9 => simp only [vM]; rw [h3 125 (by omega) (by omega)]
  | 10 => simp only [vM]; rw [h3 126 (by omega) (by omega)]
  | 11 => simp only [vM]; rw [h3 127 (by omega) (by omega)]
  | 12 => simp only [vM]; rw [h3 128 (by omega) (by omega)]
  | 13 => simp only [vM]; rw [h2 6 (by omega), h2 0 (by omega), h2 16 (by omega), h2 17 (by omega)]
  | 14 => simp only [vM]
  | 15 => simp only [vM]
  | n + 16 => simp only [vM]
theorem mU1 (h : 0 ≤ i ∧ i < 23) : vM (zU μ 123 i v) co cn = zU (vM μ co cn) 0 i v := by
  funext k x
  by_cases hk : k = 0
  · subst hk
    show y_cl 23 (zU μ 123 i v 123) x = _
    rw [y_cl_U h]
    simp only [zU, true_and]
    rfl
  · rw [zU_ne (by omega), vM_k ⟨fun q => absurd q hk, fun _ => by rw [zU_off _ (by omega)], fun _ => by rw [zU_off _ (by omega)], fun _ => by rw [zU_off _ (by omega)], fun _ => by rw [zU_off _ (by omega)], fun _ => by rw [zU_off _ (by omega)]; exact ⟨rfl, rfl⟩⟩ (fun j _ _ => by rw [zU_off _ (by omega)]) (fun j _ _ => by rw [zU_off _ (by omega)]) (fun j _ => by rw [zU_off _ (by omega)])]
theorem mU2 (h : 0 ≤ i ∧ i < 23) : vM (zU μ 124 i v) co cn = zU (vM μ co cn) 1 i v := by
  funext k x
  by_cases hk : k = 1
  · subst hk
    show y_cl 23 (zU μ 124 i v 124) x = _
    rw [y_cl_U h]
    simp only [zU, true_and]
    rfl
  · rw [zU_ne (by omega), vM_k ⟨fun _ => by rw [zU_off _ (by omega)], fun q => absurd q hk, fun _ => by rw [zU_off _ (by omega)], fun _ => by rw [zU_off _ (by omega)], fun _ => by rw [zU_off _ (by omega)], fun _ => by rw [zU_off _ (by omega)]; exact ⟨rfl, rfl⟩⟩ (fun j _ _ => by rw [zU_off _ (by omega)]) (fun j _ _ => by rw [zU_off _ (by omega)]) (fun j _ => by rw [zU_off _ (by omega)])]
theorem mU3 (h : 0 ≤ i ∧ i < μ 119 6) : vM (zU μ 130 i v) co cn = zU (vM μ co cn) 2 i v := by
  funext k x
  by_cases hk : k = 2
  · subst hk
    show y_cl (zU μ 130 i v 119 6) (zU μ 130 i v 130) x = _
    rw [zU_off 119 (by omega), y_cl_U h]
    simp only [zU, true_and]
    rfl
  · rw [zU_ne (by omega), vM_k ⟨fun _ => by rw [zU_off _ (by omega)], fun _ => by rw [zU_off _ (by omega)], fun q => absurd q hk, fun _ => by rw [zU_off _ (by omega)], fun _ => by rw [zU_off _ (by omega)], fun _ => by rw [zU_off _ (by omega)]; exact ⟨rfl, rfl⟩⟩ (fun j _ _ => by rw [zU_off _ (by omega)]) (fun j _ _ => by rw [zU_off _ (by omega)]) (fun j _ => by rw [zU_off _ (by omega)])]
theorem mU4 (h : 0 ≤ i ∧ i < μ 119 6) : vM (zU μ 131 i v) co cn = zU (vM μ co cn) 3 i v := by
  funext k x
  by_cases hk : k = 3
  · subst hk
    show y_cl (zU μ 131 i v 119 6) (zU μ 131 i v 131) x = _
    rw [zU_off 119 (by omega), y_cl_U h]
    simp only [zU, true_and]
    rfl
  · rw [zU_ne (by omega), vM_k ⟨fun _ => by rw [zU_off _ (by omega)], fun _ => by rw [zU_off _ (by omega)], fun _ => by rw [zU_off _ (by omega)], fun q => absurd q hk, fun _ => by rw [zU_off _ (by omega)], fun _ => by rw [zU_off _ (by omega)]; exact ⟨rfl, rfl⟩⟩ (fun j _ _ => by rw [zU_off _ (by omega)]) (fun j _ _ => by rw [zU_off _ (by omega)]) (fun j _ => by rw [zU_off _ (by omega)])]
theorem mU5 (h : i = 0 ∨ i = 1) : vM (zU μ 119 (i + 14) v) co cn = zU (vM μ co cn) 5 i v := by
  funext k x
  by_cases hk : k = 5
  · subst hk
    show y_cl 2 (fun j => zU μ 119 (i + 14) v 119 (j + 14)) x = _
    simp only [zU, y_cl, true_and]
    by_cases hx : x = i
    · subst hx
      rw [if_pos (by omega), if_pos rfl, if_pos rfl]
    · rw [if_neg hx]
      show _ = y_cl 2 (fun j => μ 119 (j + 14)) x
      simp only [y_cl]
      split
      · rw [if_neg (by omega)]
      · rfl
  · rw [zU_ne (by omega), vM_k ⟨fun _ => by rw [zU_off _ (by omega)], fun _ => by rw [zU_off _ (by omega)], fun _ => by rw [zU_off _ (by omega)], fun _ => by rw [zU_off _ (by omega)], fun _ => by rw [zU_off _ (by omega)], fun q => absurd q hk⟩ (fun j _ _ => by rw [zU_off _ (by omega)]) (fun j _ _ => by rw [zU_off _ (by omega)]) (fun j _ => by rw [zU_ne (by omega)])]
/-- other cells don't matter -/
theorem mUo {j : Nat} (h : ¬ (119 ≤ j ∧ j ≤ 131)) : vM (zU μ j i v) co cn = vM μ co cn := vM_same (fun k _ _ => by rw [zU_off _ (by omega)]) (fun k _ => by rw [zU_off _ (by omega)])
theorem mUs (h : ¬ (i = 0 ∨ i = 6 ∨ 14 ≤ i ∧ i ≤ 17)) : vM (zU μ 119 i v) co cn = vM μ co cn := vM_same (fun k _ _ => by rw [zU_off _ (by omega)]) (fun k _ => by rw [zU_ne (by omega)])
end
/-- who was moved is put back -/
theorem f_undo {Y : zM} {e p t : Int} (h : y_W Y) (he : 0 ≤ e ∧ e < Y 13 3) (ha : f_ahead Y e = -1) (hp : p = Y 13 0 ∨ (0 ≤ p ∧ p < Y 13 0 ∧ Y 1 p = -1)) (hne : ¬ p = f_point Y e) : zU (zU (f_in (f_out (f_bring Y e p t) e) e (f_point Y e)) 5 0 (Y 5 0)) 5 1 (Y 5 1) = Y := by
  have w := h.1
  have he' : 0 ≤ e ∧ e < 12 := by omega
  have ee := h.2.2.2 e he'
  have key : f_in (f_out (f_bring Y e p t) e) e (f_point Y e) = zU (zU Y 5 0 p) 5 1 (Y 5 1 + t) := by
    have no0 : ∀ s, 0 ≤ s ∧ s < 23 → Y 0 s = e → Y 2 e = s := by
      intro s hs q
      have := (h.2.2.1 s hs).2.2.1 (by omega)
      rw [q] at this; exact this
    by_cases q : Y 2 e = -1
    · -- from the road to a stall
      have hfp : f_point Y e = Y 13 0 := by unfold f_point; rw [if_pos q]
      have hp2 : 0 ≤ p ∧ p < Y 13 0 ∧ Y 1 p = -1 := by omega
      have hsp := h.2.2.1 p (by omega)
      have e1 : f_out Y e = Y := by unfold f_out; rw [if_pos q]
      have e13 : ∀ Z : zM, Z = f_out (f_bring Y e p t) e → Z 13 0 = Y 13 0 := by rintro Z rfl; rw [f_out_13, f_bring_13]
      unfold f_in
      rw [hfp, if_pos (e13 _ rfl).symm]
      have e2 : f_bring Y e p t 2 e = p := by rw [f_bring_2, if_pos rfl, if_neg (by omega)]
      unfold f_out
      rw [e2, if_neg (by omega)]
      by_cases qb : Y 0 p = -1
      · have e3 : f_bring Y e p t = zU (zU (zU (zU Y 0 p e) 2 e p) 5 0 p) 5 1 (Y 5 1 + t) := by
          unfold f_bring f_put
          rw [e1]
          unfold f_in
          rw [if_neg (by omega), if_pos qb]
        have e4 : f_bring Y e p t 0 p = e := by rw [e3]; simp [zU]
        rw [if_pos e4, e3]
        funext k i
        simp only [zU]
        by_cases c1 : k = 2 ∧ i = e
        · rw [if_pos c1, if_neg (by omega), if_neg (by omega), c1.1, c1.2, q]
        · rw [if_neg c1]
          by_cases c2 : k = 0 ∧ i = p
          · rw [if_pos c2, if_neg (by omega), if_neg (by omega), c2.1, c2.2, qb]
          · rw [if_neg c2]
            by_cases c3 : k = 5 ∧ i = 1
            · rw [if_pos c3, if_pos c3]
            · rw [if_neg c3, if_neg c3]
              by_cases c4 : k = 5 ∧ i = 0
              · rw [if_pos c4, if_pos c4]
              · rw [if_neg c4, if_neg c4, if_neg c1, if_neg c2]
      · have e3 : f_bring Y e p t = zU (zU (zU (zU Y 1 p e) 2 e p) 5 0 p) 5 1 (Y 5 1 + t) := by
          unfold f_bring f_put
          rw [e1]
          unfold f_in
          rw [if_neg (by omega), if_neg qb]
        have e4 : ¬ f_bring Y e p t 0 p = e := by
          rw [e3]; simp [zU]
          intro q9
          have := no0 p (by omega) q9
          omega
        rw [if_neg e4, e3]
        funext k i
        simp only [zU]
        by_cases c1 : k = 2 ∧ i = e
        · rw [if_pos c1, if_neg (by omega), if_neg (by omega), c1.1, c1.2, q]
        · rw [if_neg c1]
          by_cases c2 : k = 1 ∧ i = p
          · rw [if_pos c2, if_neg (by omega), if_neg (by omega), c2.1, c2.2, hp2.2.2]
          · rw [if_neg c2]
            by_cases c3 : k = 5 ∧ i = 1
            · rw [if_pos c3, if_pos c3]
            · rw [if_neg c3, if_neg c3]
              by_cases c4 : k = 5 ∧ i = 0
              · rw [if_pos c4, if_pos c4]
              · rw [if_neg c4, if_neg c4, if_neg c1, if_neg c2]
    · -- from a stall f
      have hfp : f_point Y e = Y 2 e := f_point_eq q
      rw [hfp] at hne
      rw [hfp]
      generalize hf : Y 2 e = f at *
      have hf2 : 0 ≤ f ∧ f < Y 13 0 := by omega
      have ef := h.2.2.1 f (by omega)
      have back : Y 0 f = e ∨ ¬ Y 0 f = e ∧ Y 1 f = e := by
        have := ee.2.2.1 q
        omega
      -- Y without e
      have hO : ∃ kb : Nat, (kb = 0 ∧ Y 0 f = e ∧ Y 1 f = -1 ∨ kb = 1 ∧ ¬ Y 0 f = e ∧ Y 1 f = e ∧ ¬ Y 0 f = -1) ∧ f_out Y e = zU (zU Y kb f (-1)) 2 e (-1) := by
        rcases back with b | b
        · refine ⟨0, Or.inl ⟨rfl, b, ?_⟩, ?_⟩
          · unfold f_ahead f_atb at ha
            rw [hf] at ha
            simpa [q, b] using ha
          · unfold f_out; rw [hf, if_neg q, if_pos b]
        · refine ⟨1, Or.inr ⟨rfl, b.1, b.2, ?_⟩, ?_⟩
          · exact (ef.2.2.2 (by omega)).2.1
          · unfold f_out; rw [hf, if_neg q, if_neg b.1]
      obtain ⟨kb, hkb, hO⟩ := hO
      have hkb2 : kb = 0 ∨ kb = 1 := by omega
      by_cases qp : p = Y 13 0
      · have e3 : f_bring Y e p t = zU (zU (zU (zU Y kb f (-1)) 2 e (-1)) 5 0 p) 5 1 (Y 5 1 + t) := by
          unfold f_bring f_put
          rw [hO]
          unfold f_in
          rw [if_pos (by rw [zU_ne (by omega), zU_ne (by omega)]; exact qp)]
        have e5 : f_out (f_bring Y e p t) e = f_bring Y e p t := by
          unfold f_out
          rw [if_pos (by rw [f_bring_2, if_pos rfl, if_pos qp])]
        rw [e5]
        unfold f_in
        rw [if_neg (by rw [f_bring_13]; omega)]
        have e6 : (if f_bring Y e p t 0 f = -1 then zU (f_bring Y e p t) 0 f e else zU (f_bring Y e p t) 1 f e) = zU (f_bring Y e p t) kb f e := by
          have : f_bring Y e p t 0 f = if kb = 0 then -1 else Y 0 f := by
            rw [e3]
            rcases hkb2 with rfl | rfl <;> simp [zU]
          rw [this]
          rcases hkb with ⟨rfl, b⟩ | ⟨rfl, b⟩
          · rw [if_pos rfl, if_pos rfl]
          · rw [if_neg (show ¬ ((1 : Nat) = 0) by omega), if_neg (by omega)]
        rw [e6, e3]
        have ykb : Y kb f = e := by rcases hkb with ⟨rfl, b⟩ | ⟨rfl, b⟩ <;> omega
        funext k i
        simp only [zU]
        by_cases c1 : k = 2 ∧ i = e
        · rw [if_pos c1, if_neg (by omega), if_neg (by omega), c1.1, c1.2, hf]
        · rw [if_neg c1]
          by_cases c2 : k = kb ∧ i = f
          · rw [if_pos c2, if_neg (by omega), if_neg (by omega), c2.1, c2.2, ykb]
          · rw [if_neg c2]
            by_cases c3 : k = 5 ∧ i = 1
            · rw [if_pos c3, if_pos c3]
            · rw [if_neg c3, if_neg c3]
              by_cases c4 : k = 5 ∧ i = 0
              · rw [if_pos c4, if_pos c4]
              · rw [if_neg c4, if_neg c4, if_neg c1, if_neg c2]
      · have hp2 : 0 ≤ p ∧ p < Y 13 0 ∧ Y 1 p = -1 := by omega
        have hsp := h.2.2.1 p (by omega)
        have hpe : ¬ Y 0 p = e := fun q9 => by have := no0 p (by omega) q9; omega
        have o0p : f_out Y e 0 p = Y 0 p := by
          rw [hO, zU_ne (by omega), zU_ne (by omega)]
        -- where it stands at p
        have hI : ∃ kp : Nat, (kp = 0 ∧ Y 0 p = -1 ∨ kp = 1 ∧ ¬ Y 0 p = -1) ∧ f_bring Y e p t = zU (zU (zU (zU (zU (zU Y kb f (-1)) 2 e (-1)) kp p e) 2 e p) 5 0 p) 5 1 (Y 5 1 + t) := by
          by_cases qb : Y 0 p = -1
          · refine ⟨0, Or.inl ⟨rfl, qb⟩, ?_⟩
            unfold f_bring f_put f_in
            rw [f_out_13, if_neg qp, o0p, if_pos qb, hO]
          · refine ⟨1, Or.inr ⟨rfl, qb⟩, ?_⟩
            unfold f_bring f_put f_in
            rw [f_out_13, if_neg qp, o0p, if_neg qb, hO]
        obtain ⟨kp, hkp, e3⟩ := hI
        have hkp2 : kp = 0 ∨ kp = 1 := by omega
        have e2 : f_bring Y e p t 2 e = p := by rw [f_bring_2, if_pos rfl, if_neg qp]
        have b0p : f_bring Y e p t 0 p = if kp = 0 then e else Y 0 p := by
          rw [e3]
          rcases hkb2 with rfl | rfl <;> rcases hkp2 with rfl | rfl <;> simp [zU] <;> omega
        have e5 : f_out (f_bring Y e p t) e = zU (zU (f_bring Y e p t) kp p (-1)) 2 e (-1) := by
          unfold f_out
          rw [e2, if_neg (by omega), b0p]
          rcases hkp with ⟨rfl, b⟩ | ⟨rfl, b⟩
          · rw [if_pos rfl, if_pos rfl]
          · rw [if_neg (show ¬ ((1 : Nat) = 0) by omega), if_neg hpe]
        have b0f : f_out (f_bring Y e p t) e 0 f = if kb = 0 then -1 else Y 0 f := by
          rw [e5, e3]
          rcases hkb2 with rfl | rfl <;> rcases hkp2 with rfl | rfl <;> simp [zU] <;> omega
        unfold f_in
        rw [f_out_13, f_bring_13, if_neg (by omega), b0f]
        have e6 : (if (if kb = 0 then (-1 : Int) else Y 0 f) = -1 then zU (f_out (f_bring Y e p t) e) 0 f e else zU (f_out (f_bring Y e p t) e) 1 f e) = zU (f_out (f_bring Y e p t) e) kb f e := by
          rcases hkb with ⟨rfl, b⟩ | ⟨rfl, b⟩
          · rw [if_pos rfl, if_pos rfl]
          · rw [if_neg (show ¬ ((1 : Nat) = 0) by omega), if_neg (by omega)]
        rw [e6, e5, e3]
        have ykb : Y kb f = e := by rcases hkb with ⟨rfl, b⟩ | ⟨rfl, b⟩ <;> omega
        have ykp : Y kp p = -1 := by rcases hkp with ⟨rfl, b⟩ | ⟨rfl, b⟩ <;> omega
        funext k i
        simp only [zU]
        by_cases c1 : k = 2 ∧ i = e
        · rw [if_pos c1, if_neg (by omega), if_neg (by omega), c1.1, c1.2, hf]
        · rw [if_neg c1]
          by_cases c2 : k = kb ∧ i = f
          · rw [if_pos c2, if_neg (by omega), if_neg (by omega), c2.1, c2.2, ykb]
          · rw [if_neg c2, if_neg c1]
            by_cases c5 : k = kp ∧ i = p
            · rw [if_pos c5, if_neg (by omega), if_neg (by omega), c5.1, c5.2, ykp]
            · rw [if_neg c5]
              by_cases c3 : k = 5 ∧ i = 1
              · rw [if_pos c3, if_pos c3]
              · rw [if_neg c3, if_neg c3]
                by_cases c4 : k = 5 ∧ i = 0
                · rw [if_pos c4, if_pos c4]
                · rw [if_neg c4, if_neg c4, if_neg c1, if_neg c5, if_neg c1, if_neg c2]
  rw [key]
  funext k i
  simp only [zU]
  by_cases c3 : k = 5 ∧ i = 1
  · rw [if_pos c3, c3.1, c3.2]
  · rw [if_neg c3]
    by_cases c4 : k = 5 ∧ i = 0
    · rw [if_pos c4, c4.1, c4.2]
    · rw [if_neg c4, if_neg c3, if_neg c4]
