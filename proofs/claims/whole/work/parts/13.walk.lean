/-! the walk, whole -/
section ZN
variable {g : zG} {d : Nat} {M : zMeth} {K : Option zV → zM → Prop} {lv : zL} {st : List zV} {μ : zM}
theorem zmask_get (ms : List Nat) : ∀ (l : zL) (k i : Nat) (v : zV), zget (zmask ms k l) i = some v → zget l i = some v
  | [], k, i, v, h => h
  | a :: l, k, 0, v, h => by
    simp only [zmask, zget] at h
    split at h
    · exact h
    · cases h
  | a :: l, k, i + 1, v, h => by
    simp only [zmask, zget] at h
    exact zmask_get ms l (k + 1) i v h
theorem zwp_sound (cf : zCf) (pf : zPool) (ly : zLay) (hM : zMchk M = true) (cuts : List (Nat × List Nat)) : ∀ (n : Nat) (C : zC) (lv : zL) (st : List zV) (μ : zM), (∃ p, M.2.2.2.2.2 = p ++ C) → zwp g d M cuts K n C lv st μ → ∃ q r, C = q :: r ∧ zTm g d M K q.1 lv st μ
  | n, [], lv, st, μ, _, h => by
    cases n <;> exact (show False from h).elim
  | 0, q :: r, lv, st, μ, hp, h => ⟨q, r, rfl, Or.elim h id False.elim⟩
  | n + 1, q :: r, lv, st, μ, hp, h => by
    refine ⟨q, r, rfl, ?_⟩
    simp only [zwp] at h
    split at h
    · rename_i ms e
      exact (Or.elim h id False.elim : zTm g d M K q.1 (zmask ms 0 lv) st μ).less (fun i v hi => zmask_get ms lv 0 i v hi)
    · obtain ⟨p, hp⟩ := hp
      obtain ⟨pc, ins, len⟩ := q
      exact zgo_sound cf pf ly hM hp (fun C lv st μ hC hk => zwp_sound cf pf ly hM cuts n C lv st μ hC hk) h
theorem zrun_sound (cf : zCf) (pf : zPool) (ly : zLay) (hM : zMchk M = true) (cuts : List (Nat × List Nat)) (n : Nat) {pc : Nat} {C : zC} (hp : zto M.2.2.2.2.2 pc = C) (h : zrun g d M cuts K n C lv st μ) : zTm g d M K pc lv st μ := by
  obtain ⟨⟨p, h1⟩, h2⟩ := zto_suf M.2.2.2.2.2 pc
  rw [hp] at h1 h2
  cases C with
  | nil => exact (show False from h).elim
  | cons q r =>
    obtain ⟨pc', ins, len⟩ := q
    obtain rfl : pc' = pc := h2 _ _ rfl
    exact zgo_sound cf pf ly hM h1 (fun C lv st μ hC hk => zwp_sound cf pf ly hM cuts n C lv st μ hC hk) h
end ZN
-- what the tables say, by program
theorem zLay_ok : zLay := by
  have key : (List.range 177).all (fun j => match zSh[j]? with
    | some (0, c) => (zFl.getD c []).all (fun fi => match fi with
      | .inr (.inl (t, .inl a)) => decide (zSh[a]? = some t)
      | .inr (.inl (t, .inr o)) => decide (zSh[j + o]? = some t)
      | .inr (.inr l) => l.all (fun q => decide (zSh[q.2]? = some q.1))
      | _ => true)
    | _ => true) = true := by decide +kernel
  intro c k j t hj
  have hj2 := List.all_eq_true.mp key j (List.mem_range.mpr (zSh_lt hj))
  rw [hj] at hj2
  simp only at hj2
  refine ⟨fun a h => ?_, fun o h => ?_, fun l a h ha => ?_⟩
  · rw [zfi_eq] at h
    exact of_decide_eq_true (List.all_eq_true.mp hj2 _ (List.mem_of_getElem? h))
  · rw [zfi_eq] at h
    exact of_decide_eq_true (List.all_eq_true.mp hj2 _ (List.mem_of_getElem? h))
  · rw [zfi_eq] at h
    exact of_decide_eq_true (List.all_eq_true.mp (List.all_eq_true.mp hj2 _ (List.mem_of_getElem? h)) (t, a) ha)
def zin (w : Cond) : Bool := decide (w ∈ lw_tbl) && goodWord w
theorem zin_ok {w : Cond} (h : zin w = true) : w ∈ zTb := by
  unfold zin at h
  rw [Bool.and_eq_true] at h
  exact List.mem_filter.mpr ⟨of_decide_eq_true h.1, h.2⟩
theorem zcl_0 : (u_ws RX0 TX0 15).all zin = true := by decide +kernel
theorem zcl_1 : (u_ws RX1 TX1 11).all zin = true := by decide +kernel
theorem zcl_2 : (u_ws RX2 TX2 10).all zin = true := by decide +kernel
