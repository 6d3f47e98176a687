/-! the pools, whole -/
theorem zlook_mem {α : Type} : ∀ (l : List (Nat × α)) (n : Nat) (a : α), zlook l n = some a → (n, a) ∈ l
  | [], n, a, h => by cases h
  | q :: l, n, a, h => by
    unfold zlook at h
    split at h
    · rename_i e
      cases h
      rw [← zbq e]
      exact List.mem_cons_self
    · exact List.mem_cons_of_mem _ (zlook_mem l n a h)
theorem zPool_ok : zPool := by
  intro own idx e h
  unfold zpe at h
  split at h
  · rename_i l hl
    rw [znth_eq] at hl
    have hm := zlook_mem l idx e h
    match own, hl with
    | 0, hl => cases hl; exact zpo_0 _ hm
    | 1, hl => cases hl; exact zpo_1 _ hm
    | 2, hl => cases hl; exact zpo_2 _ hm
    | 3, hl => cases hl; exact zpo_3 _ hm
    | 4, hl => cases hl; exact zpo_4 _ hm
    | 5, hl => cases hl; exact zpo_5 _ hm
    | 6, hl => cases hl; exact zpo_6 _ hm
    | 7, hl => cases hl; exact zpo_7 _ hm
    | 8, hl => cases hl; exact zpo_8 _ hm
    | 9, hl => cases hl; exact zpo_9 _ hm
    | 10, hl => cases hl; exact zpo_10 _ hm
    | 11, hl => cases hl; exact zpo_11 _ hm
    | 12, hl => cases hl; exact zpo_12 _ hm
    | 13, hl => cases hl; exact zpo_13 _ hm
    | 14, hl => cases hl; exact zpo_14 _ hm
    | 15, hl => cases hl; exact zpo_15 _ hm
    | n + 16, hl => simp [zPl] at hl
  · cases h
