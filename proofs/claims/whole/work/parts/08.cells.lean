/-! cells: the world as numbers -/
section ZC
variable {g : zG} {d : Nat} {M : zMeth} {K : Option zV → zM → Prop} {pc : Nat} {lv : zL} {st : List zV} {μ : zM} {x y : Int}
theorem zget_none : ∀ (l : zL) (i : Nat), l.length ≤ i → zget l i = none
  | [], _, _ => rfl
  | _ :: _, 0, h => by simp at h
  | _ :: l, i + 1, h => by simp only [zget]; exact zget_none l i (by simpa using h)
def zlv (g : zG) : Nat → zL → List (Nat × Value)
  | _, [] => []
  | k, none :: l => zlv g (k + 1) l
  | k, some v :: l => (k, zR g v) :: zlv g (k + 1) l
theorem zlv_mem (g : zG) : ∀ (l : zL) (k : Nat) (q : Nat × Value), q ∈ zlv g k l ↔ ∃ (i : Nat) (v : zV), zget l i = some v ∧ q = (k + i, zR g v)
  | [], k, q => by simp [zlv, zget]
  | none :: l, k, q => by
    simp only [zlv]
    rw [zlv_mem g l (k + 1) q]
    constructor
    · rintro ⟨i, v, h, rfl⟩
      exact ⟨i + 1, v, h, by rw [show k + 1 + i = k + (i + 1) from by omega]⟩
    · rintro ⟨i, v, h, rfl⟩
      cases i with
      | zero => simp [zget] at h
      | succ i => exact ⟨i, v, h, by rw [show k + 1 + i = k + (i + 1) from by omega]⟩
  | some w :: l, k, q => by
    simp only [zlv, List.mem_cons]
    rw [zlv_mem g l (k + 1) q]
    constructor
    · rintro (rfl | ⟨i, v, h, rfl⟩)
      · exact ⟨0, w, rfl, rfl⟩
      · exact ⟨i + 1, v, h, by rw [show k + 1 + i = k + (i + 1) from by omega]⟩
    · rintro ⟨i, v, h, rfl⟩
      cases i with
      | zero => left; simp only [zget] at h; cases h; rfl
      | succ i => right; exact ⟨i, v, h, by rw [show k + 1 + i = k + (i + 1) from by omega]⟩
theorem zHas.toLv {ls : Array Slot} {nL : Nat} (h : zHas g ls nL lv) : lv_has ls nL (zlv g 0 lv) := ⟨h.1, h.2.1, fun q hq => by
  obtain ⟨i, v, hi, rfl⟩ := (zlv_mem g lv 0 q).mp hq
  rw [Nat.zero_add]
  exact h.2.2 i v hi⟩
theorem zcat_2 {v : zV} (h : (zR g v).category = 2) : ∃ z, v = .inr (.inl z) := by
  rcases v with a | a | a
  · cases h
  · exact ⟨a, rfl⟩
  · cases h
theorem zHas.st1 {ls : Array Slot} {nL i : Nat} {v : zV} (h : lv_has ls nL ((i, zR g v) :: (zlv g 0 lv).filter (fun q => !(q.1 == i) && !(q.1 + 1 == i && q.2.category == 2)))) : zHas g ls nL (zst1 lv i v) := by
  refine ⟨h.1, h.2.1, fun j w hj => ?_⟩
  unfold zst1 at hj
  rw [zget_set] at hj
  split at hj
  · rename_i hc
    cases hj
    rw [hc.1]
    exact h.2.2 (i, zR g v) List.mem_cons_self
  · rename_i hc
    obtain ⟨h1, h2⟩ := zkill_get hj
    have hne : ¬ j = i := fun e => hc ⟨e, by
      by_cases hl : i < (zkill lv i).length
      · exact hl
      · rw [zget_none _ j (by omega)] at hj; cases hj⟩
    refine h.2.2 (j, zR g w) (List.mem_cons_of_mem _ (List.mem_filter.mpr ⟨(zlv_mem g lv 0 _).mpr ⟨j, w, h1, by rw [Nat.zero_add]⟩, ?_⟩))
    have e1 : (j == i) = false := by simpa using hne
    have e2 : (j + 1 == i && (zR g w).category == 2) = false := by
      by_cases e3 : j + 1 = i
      · have : ¬ (zR g w).category = 2 := fun e4 => by
          obtain ⟨z, hz⟩ := zcat_2 e4
          exact h2 e3 z hz
        simp [this]
      · simp [e3]
    simp only [e1, e2]
    rfl
theorem zHas.st2 {ls : Array Slot} {nL i : Nat} {v : zV} (h : lv_has ls nL ((i, zR g v) :: (zlv g 0 lv).filter (fun q => !(q.1 == i) && (!(q.1 == i + 1) && !(q.1 + 1 == i && q.2.category == 2))))) : zHas g ls nL (zst2 lv i v) := by
  refine ⟨h.1, h.2.1, fun j w hj => ?_⟩
  unfold zst2 at hj
  rw [zget_set] at hj
  split at hj
  · cases hj
  · rename_i hc0
    rw [zget_set] at hj
    split at hj
    · rename_i hc
      cases hj
      rw [hc.1]
      exact h.2.2 (i, zR g v) List.mem_cons_self
    · rename_i hc
      obtain ⟨h1, h2⟩ := zkill_get hj
      have hl : j < (zkill lv i).length := by
        by_cases hl : j < (zkill lv i).length
        · exact hl
        · rw [zget_none _ j (by omega)] at hj; cases hj
      have hne : ¬ j = i := fun e => hc ⟨e, by omega⟩
      have hne2 : ¬ j = i + 1 := fun e => hc0 ⟨e, by rw [zset_length]; omega⟩
      refine h.2.2 (j, zR g w) (List.mem_cons_of_mem _ (List.mem_filter.mpr ⟨(zlv_mem g lv 0 _).mpr ⟨j, w, h1, by rw [Nat.zero_add]⟩, ?_⟩))
      have e1 : (j == i) = false := by simpa using hne
      have e0 : (j == i + 1) = false := by simpa using hne2
      have e2 : (j + 1 == i && (zR g w).category == 2) = false := by
        by_cases e3 : j + 1 = i
        · have : ¬ (zR g w).category = 2 := fun e4 => by
            obtain ⟨z, hz⟩ := zcat_2 e4
            exact h2 e3 z hz
          simp [this]
        · simp [e3]
      simp only [e0, e1, e2]
      rfl
theorem zst1_ok {i : Nat} {v : zV} (hv : ∀ (i : Nat) (v : zV), zget lv i = some v → zok v) (h : zok v) (j : Nat) (w : zV) (hj : zget (zst1 lv i v) j = some w) : zok w := by
  unfold zst1 at hj
  rw [zget_set] at hj
  split at hj
  · cases hj; exact h
  · exact hv _ _ (zkill_get hj).1
theorem zst2_ok {i : Nat} {v : zV} (hv : ∀ (i : Nat) (v : zV), zget lv i = some v → zok v) (h : zok v) (j : Nat) (w : zV) (hj : zget (zst2 lv i v) j = some w) : zok w := by
  unfold zst2 at hj
  rw [zget_set] at hj
  split at hj
  · cases hj
  · rw [zget_set] at hj
    split at hj
    · cases hj; exact h
    · exact hv _ _ (zkill_get hj).1
theorem zs_istore_n {n : Fin 4} (hd : decode M.2.1 pc = .ok (.istore_n n, 1)) (hn : (n : Nat) < M.2.2.1) (h : zTm g d M K (pc + 1) (zst1 lv n (.inl x)) st μ) : zTm g d M K pc lv (.inl x :: st) μ := by
  intro p e R s m args below meth c H locs cells slots Q ls C hl hs hv hr hS hret
  exact lv_istore_n (x := Int32.ofInt x) C.1 C.2.1 hd rfl hl.toLv hn rfl (fun ls' h' => h p e R s m args below meth c H locs cells slots Q ls' C (zHas.st1 (v := .inl x) h') (zokt hs) (zst1_ok hv (zokh hs)) hr hS hret)
theorem zs_istore {n : Nat} (hd : decode M.2.1 pc = .ok (.istore n, 2)) (hn : n < M.2.2.1) (h : zTm g d M K (pc + 2) (zst1 lv n (.inl x)) st μ) : zTm g d M K pc lv (.inl x :: st) μ := by
  intro p e R s m args below meth c H locs cells slots Q ls C hl hs hv hr hS hret
  exact lv_istore (x := Int32.ofInt x) C.1 C.2.1 hd hl.toLv hn rfl (fun ls' h' => h p e R s m args below meth c H locs cells slots Q ls' C (zHas.st1 (v := .inl x) h') (zokt hs) (zst1_ok hv (zokh hs)) hr hS hret)
theorem zs_astore_n {n : Fin 4} {q : zT0 × Nat} (hd : decode M.2.1 pc = .ok (.astore_n n, 1)) (hn : (n : Nat) < M.2.2.1) (h : zTm g d M K (pc + 1) (zst1 lv n (.inr (.inr q))) st μ) : zTm g d M K pc lv (.inr (.inr q) :: st) μ := by
  intro p e R s m args below meth c H locs cells slots Q ls C hl hs hv hr hS hret
  exact lv_astore_n (x := zad g q.2) C.1 C.2.1 hd rfl hl.toLv hn rfl (fun ls' h' => h p e R s m args below meth c H locs cells slots Q ls' C (zHas.st1 (v := .inr (.inr q)) h') (zokt hs) (zst1_ok hv (zokh hs)) hr hS hret)
theorem zs_astore {n : Nat} {q : zT0 × Nat} (hd : decode M.2.1 pc = .ok (.astore n, 2)) (hn : n < M.2.2.1) (h : zTm g d M K (pc + 2) (zst1 lv n (.inr (.inr q))) st μ) : zTm g d M K pc lv (.inr (.inr q) :: st) μ := by
  intro p e R s m args below meth c H locs cells slots Q ls C hl hs hv hr hS hret
  exact lv_astore (x := zad g q.2) C.1 C.2.1 hd hl.toLv hn rfl (fun ls' h' => h p e R s m args below meth c H locs cells slots Q ls' C (zHas.st1 (v := .inr (.inr q)) h') (zokt hs) (zst1_ok hv (zokh hs)) hr hS hret)
theorem zs_lstore {n : Nat} (hd : decode M.2.1 pc = .ok (.lstore n, 2)) (hn : n + 1 < M.2.2.1) (h : zTm g d M K (pc + 2) (zst2 lv n (.inr (.inl x))) st μ) : zTm g d M K pc lv (.inr (.inl x) :: st) μ := by
  intro p e R s m args below meth c H locs cells slots Q ls C hl hs hv hr hS hret
  exact lv_lstore (x := Int64.ofInt x) C.1 C.2.1 hd hl.toLv hn rfl (fun ls' h' => h p e R s m args below meth c H locs cells slots Q ls' C (zHas.st2 (v := .inr (.inl x)) h') (zokt hs) (zst2_ok hv (zokh hs)) hr hS hret)
theorem zs_iinc {i : Nat} {n : Int} (hd : decode M.2.1 pc = .ok (.iinc i n, 3)) (hn : i < M.2.2.1) (hx : zget lv i = some (.inl x)) (h : zTm g d M K (pc + 3) (zst1 lv i (.inl (zw (x + n)))) st μ) : zTm g d M K pc lv st μ := by
  intro p e R s m args below meth c H locs cells slots Q ls C hl hs hv hr hS hret
  obtain ⟨k, hk⟩ := List.getElem?_of_mem ((zlv_mem g lv 0 (i, .int (Int32.ofInt x))).mpr ⟨i, .inl x, hx, by rw [Nat.zero_add]; rfl⟩)
  exact lv_iinc (x := Int32.ofInt x) (v := Int32.ofInt (zw (x + n))) C.1 C.2.1 hd hl.toLv hk (by rw [zof_w, Int32.ofInt_add]) hn rfl (fun ls' h' => h p e R s m args below meth c H locs cells slots Q ls' C (zHas.st1 (v := .inl (zw (x + n))) h') hs (zst1_ok hv (zI32_w _)) hr hS hret)
-- the world
theorem zWs_get (g : zG) (μ : zM) : ∀ (l : List zT0) (k i : Nat), (zWs g μ k l)[i]? = (l[i]?).map (fun t => (zad g (k + i), zE g (k + i) t (μ (k + i))))
  | [], k, i => by simp [zWs]
  | t :: l, k, 0 => by simp [zWs]
  | t :: l, k, i + 1 => by
    simp only [zWs, List.getElem?_cons_succ]
    rw [zWs_get g μ l (k + 1) i, show k + 1 + i = k + (i + 1) from by omega]
theorem zW_get {j : Nat} {t : zT0} (h : zSh[j]? = some t) : (zW g μ)[j]? = some (zad g j, zE g j t (μ j)) := by
  unfold zW
  rw [zWs_get, h, Nat.zero_add]
  rfl
theorem zWs_len (g : zG) (μ : zM) : ∀ (l : List zT0) (k : Nat), (zWs g μ k l).length = l.length
  | [], _ => rfl
  | _ :: l, k => by simp [zWs, zWs_len g μ l]
theorem zSh_len : zSh.length = 177 := by decide +kernel
theorem zSh_lt {j : Nat} {t : zT0} (h : zSh[j]? = some t) : j < 177 := by
  have := (List.getElem?_eq_some_iff.mp h).1
  rw [zSh_len] at this
  exact this
theorem zW_upd {j : Nat} {t : zT0} {μ' : zM} (h : zSh[j]? = some t) (hne : ∀ a, ¬ a = j → μ' a = μ a) : (zW g μ).set j (zad g j, zE g j t (μ' j)) = zW g μ' := by
  apply List.ext_getElem?
  intro a
  rw [List.getElem?_set]
  have hlen : (zW g μ).length = 177 := by unfold zW; rw [zWs_len, zSh_len]
  by_cases e : j = a
  · subst e
    rw [if_pos rfl, if_pos (by rw [hlen]; exact zSh_lt h), zW_get h]
  · rw [if_neg e]
    unfold zW
    rw [zWs_get, zWs_get, Nat.zero_add, hne a (fun e2 => e e2.symm)]
theorem zW_D (h : zAd g) (μ : zM) : va_D (zA g) (zW g μ) := by
  have key : ∀ (i : Nat) (q : Nat × va_E), (zW g μ)[i]? = some q → i < 177 ∧ q.1 = zad g i := by
    intro i q hq
    have hlen : (zW g μ).length = 177 := by unfold zW; rw [zWs_len, zSh_len]
    have hi := (List.getElem?_eq_some_iff.mp hq).1
    rw [hlen] at hi
    have hs : i < zSh.length := by rw [zSh_len]; exact hi
    rw [zW_get (List.getElem?_eq_getElem hs)] at hq
    cases hq
    exact ⟨hi, rfl⟩
  refine ⟨fun i j p q hp hq e => ?_, fun k q hq => ?_⟩
  · obtain ⟨h1, e1⟩ := key i p hp
    obtain ⟨h2, e2⟩ := key j q hq
    exact h.1 i j h1 h2 (by rw [← e1, ← e2]; exact e)
  · obtain ⟨h1, e1⟩ := key k q hq
    rw [e1]
    exact h.2.1 k h1
theorem zFs_get (g : zG) (j : Nat) (m : Int → Int) : ∀ (l : List zFI) (k i : Nat), (zFs g j m k l)[i]? = (l[i]?).map (zFv g j m (k + i))
  | [], k, i => by simp [zFs]
  | f :: l, k, 0 => by simp [zFs]
  | f :: l, k, i + 1 => by
    simp only [zFs, List.getElem?_cons_succ]
    rw [zFs_get g j m l (k + 1) i, show k + 1 + i = k + (i + 1) from by omega]
theorem zFs_len (g : zG) (j : Nat) (m : Int → Int) : ∀ (l : List zFI) (k : Nat), (zFs g j m k l).length = l.length
  | [], _ => rfl
  | _ :: l, k => by simp [zFs, zFs_len g j m l]
theorem zfi_eq (c k : Nat) : zfi c k = (zFl.getD c [])[k]? := by
  unfold zfi
  rw [znth_eq, List.getD_eq_getElem?_getD]
  cases zFl[c]? with
  | none => simp
  | some l => simp [znth_eq]
theorem zU_off {j : Nat} {i v : Int} (a : Nat) (h : ¬ a = j) : zU μ j i v a = μ a := by
  funext b
  simp [zU, h]
theorem zU_at (j : Nat) (i v b : Int) : zU μ j i v j b = if b = i then v else μ j b := by
  simp [zU]
theorem zMok_U {j : Nat} {t : zT0} {i v : Int} (h : zMok μ) (ht : zSh[j]? = some t) (hv : zfit t i v) : zMok (zU μ j i v) := by
  intro j' t' i' h1 h2 h3 h4
  by_cases e : j' = j
  · subst e
    rw [ht] at h1; cases h1
    rw [zU_at]
    split
    · rename_i e2; rw [e2]; exact hv
    · exact h _ _ _ ht h2 h3 h4
  · rw [zU_off _ e]
    exact h _ _ _ h1 h2 h3 h4
theorem zvp_in {i : Int} {n : Nat} (hi : zI32 i) (h : 0 ≤ i ∧ i < n) : vp_in (Int32.ofInt i) n := by
  unfold vp_in
  rw [zof_toN hi, ← zof_0, zof_lt hi zI32_0]
  omega
theorem zs_iaload {i : Int} {n j : Nat} (hd : decode M.2.1 pc = .ok (.iaload, 1)) (hi : 0 ≤ i ∧ i < n) (h : zTm g d M K (pc + 1) lv (.inl (μ j i) :: st) μ) : zTm g d M K pc lv (.inl i :: .inr (.inr ((1, n), j)) :: st) μ := by
  refine h.keep (fun hs _ hm => zok2 hs ?_) ?_
  · rcases zokh2 hs with h1 | h1 | h1
    · exact hm j (1, n) i h1 hi.1 (fun e => by cases e) (fun _ => hi.2)
    · cases h1
    · cases h1
  intro p e R s m args below meth c H locs cells slots Q ls C hl hs hr hS k
  rcases zokh2 hs with h1 | h1 | h1
  · refine va_iald (D := zD g) (a := zad g j) (f := fun a => Int32.ofInt (μ j a)) (i := Int32.ofInt i) C.1 C.2.1 C.2.2.2.2.2.1.1 hr.1 j 0 (zW_get h1) rfl (zvp_in (zokh hs) hi) hd ?_
    rw [zof_toN (zokh hs), show ((i.toNat : Nat) : Int) = i from by omega]
    exact k
  · cases h1
  · cases h1
theorem zs_baload2 {i : Int} {n j : Nat} (hd : decode M.2.1 pc = .ok (.baload, 1)) (hi : 0 ≤ i ∧ i < n) (h : zTm g d M K (pc + 1) lv (.inl (μ j i) :: st) μ) : zTm g d M K pc lv (.inl i :: .inr (.inr ((2, n), j)) :: st) μ := by
  refine h.keep (fun hs _ hm => zok2 hs ?_) ?_
  · rcases zokh2 hs with h1 | h1 | h1
    · have := hm j (2, n) i h1 hi.1 (fun e => by cases e) (fun _ => hi.2)
      rcases this with h2 | h2 <;> (show zI32 _; rw [h2]; unfold zI32; omega)
    · cases h1
    · cases h1
  intro p e R s m args below meth c H locs cells slots Q ls C hl hs hr hS k
  rcases zokh2 hs with h1 | h1 | h1
  · refine va_zald (D := zD g) (a := zad g j) (f := fun a => Int32.ofInt (μ j a)) (i := Int32.ofInt i) C.1 C.2.1 C.2.2.2.2.2.1.1 hr.1 j 1 (zW_get h1) rfl (zvp_in (zokh hs) hi) hd ?_
    rw [zof_toN (zokh hs), show ((i.toNat : Nat) : Int) = i from by omega]
    exact k
  · cases h1
  · cases h1
theorem zs_baload3 {i : Int} {n j : Nat} (hd : decode M.2.1 pc = .ok (.baload, 1)) (hi : 0 ≤ i ∧ i < n) (h : zTm g d M K (pc + 1) lv (.inl (μ j i) :: st) μ) : zTm g d M K pc lv (.inl i :: .inr (.inr ((3, n), j)) :: st) μ := by
  refine h.keep (fun hs _ hm => zok2 hs ?_) ?_
  · rcases zokh2 hs with h1 | h1 | h1
    · have := hm j (3, n) i h1 hi.1 (fun e => by cases e) (fun _ => hi.2)
      show zI32 _
      have h2 : -128 ≤ μ j i ∧ μ j i ≤ 127 := this
      unfold zI32; omega
    · cases h1
    · cases h1
  intro p e R s m args below meth c H locs cells slots Q ls C hl hs hr hS k
  rcases zokh2 hs with h1 | h1 | h1
  · refine va_bald (D := zD g) (a := zad g j) (f := fun a => Int32.ofInt (μ j a)) (i := Int32.ofInt i) C.1 C.2.1 C.2.2.2.2.2.1.1 hr.1 j 2 (zW_get h1) rfl (zvp_in (zokh hs) hi) hd ?_
    rw [zof_toN (zokh hs), show ((i.toNat : Nat) : Int) = i from by omega]
    exact k
  · cases h1
  · cases h1
theorem zs_laload4 {i : Int} {n j : Nat} (hd : decode M.2.1 pc = .ok (.laload, 1)) (hi : 0 ≤ i ∧ i < n) (h : zTm g d M K (pc + 1) lv (.inr (.inl (μ j i)) :: st) μ) : zTm g d M K pc lv (.inl i :: .inr (.inr ((4, n), j)) :: st) μ := by
  refine h.keep (fun hs _ hm => zok2 hs ?_) ?_
  · rcases zokh2 hs with h1 | h1 | h1
    · exact hm j (4, n) i h1 hi.1 (fun e => by cases e) (fun _ => hi.2)
    · cases h1
    · cases h1
  intro p e R s m args below meth c H locs cells slots Q ls C hl hs hr hS k
  rcases zokh2 hs with h1 | h1 | h1
  · refine va_lald (D := zD g) (a := zad g j) (f := fun a => Int64.ofInt (μ j a)) (i := Int32.ofInt i) C.1 C.2.1 C.2.2.2.2.2.1.1 hr.1 j 3 (zW_get h1) rfl (zvp_in (zokh hs) hi) hd ?_
    rw [zof_toN (zokh hs), show ((i.toNat : Nat) : Int) = i from by omega]
    exact k
  · cases h1
  · cases h1
theorem zBs_ok {j n i : Nat} (h : zSh[j]? = some (5, n)) (hi : i < n) : zSh[zBs j + 5 * i]? = some (0, 7) := by
  have key0 : (List.range 177).all (fun j => (List.range 7).all (fun n => (List.range 7).all (fun i => !(decide (zSh[j]? = some (5, n)) && decide (i < n)) || decide (zSh[zBs j + 5 * i]? = some (0, 7))))) = true := by decide +kernel
  have key : ∀ j, j < 177 → ∀ n, n < 7 → ∀ i, i < 7 → zSh[j]? = some (5, n) → i < n → zSh[zBs j + 5 * i]? = some (0, 7) := by
    intro j hj n hn i hi h1 h2
    have := List.all_eq_true.mp (List.all_eq_true.mp (List.all_eq_true.mp key0 j (List.mem_range.mpr hj)) n (List.mem_range.mpr hn)) i (List.mem_range.mpr hi)
    simpa [h1, h2] using this
  have h7 : ∀ j, j < 177 → ((zSh[j]?).getD (0, 0)).1 = 5 → ((zSh[j]?).getD (0, 0)).2 < 7 := by decide +kernel
  have := h7 j (zSh_lt h) (by rw [h]; rfl)
  rw [h] at this
  have this : n < 7 := this
  exact key j (zSh_lt h) n this i (by omega) h hi
theorem zs_aaload {i : Int} {n j : Nat} (hd : decode M.2.1 pc = .ok (.aaload, 1)) (hi : 0 ≤ i ∧ i < n) (h : zTm g d M K (pc + 1) lv (.inr (.inr ((0, 7), zBs j + 5 * i.toNat)) :: st) μ) : zTm g d M K pc lv (.inl i :: .inr (.inr ((5, n), j)) :: st) μ := by
  refine h.keep (fun hs _ hm => zok2 hs ?_) ?_
  · rcases zokh2 hs with h1 | h1 | h1
    · exact Or.inl (zBs_ok h1 (by omega))
    · cases h1
    · cases h1
  intro p e R s m args below meth c H locs cells slots Q ls C hl hs hr hS k
  rcases zokh2 hs with h1 | h1 | h1
  · refine va_aldq (D := zD g) (a := zad g j) (C := RX7) (f := fun a => some (zad g (zBs j + 5 * a))) (i := Int32.ofInt i) C.1 C.2.1 C.2.2.2.2.2.1.1 hr.1 j 4 (zW_get h1) rfl (zvp_in (zokh hs) hi) hd ?_
    rw [zof_toN (zokh hs)]
    exact k
  · cases h1
  · cases h1
theorem zRo_ok (j : Nat) (i : Int) : zI64 (zRo j i) := by
  unfold zRo
  have key : ∀ (l : List Int), (∀ x ∈ l, zI64 x) → ∀ n, zI64 (l.getD n 0) := by
    intro l hl n
    rw [List.getD_eq_getElem?_getD]
    cases hx : l[n]? with
    | none => show zI64 0; unfold zI64; omega
    | some x => exact hl x (List.mem_of_getElem? hx)
  split
  · exact key _ (by intro x hx; simp at hx; unfold zI64; omega) _
  · exact key _ (by intro x hx; simp at hx; unfold zI64; omega) _
theorem zs_laload6 {i : Int} {n j : Nat} (hd : decode M.2.1 pc = .ok (.laload, 1)) (hi : 0 ≤ i ∧ i < n) (h : zTm g d M K (pc + 1) lv (.inr (.inl (zRo j i)) :: st) μ) : zTm g d M K pc lv (.inl i :: .inr (.inr ((6, n), j)) :: st) μ := by
  refine h.keep (fun hs _ hm => zok2 hs (zRo_ok _ _)) ?_
  intro p e R s m args below meth c H locs cells slots Q ls C hl hs hr hS k
  have h6 : ∀ j, j < 177 → ¬ ((zSh[j]?).getD (0, 0)).1 = 6 := by decide +kernel
  rcases zokh2 hs with h1 | h1 | h1
  · exact absurd (by rw [h1]; rfl) (h6 j (zSh_lt h1))
  · cases h1
    refine va_tl (A := zA g) (t := zad g 1000) (N := 6) (f := fun i => .long (Int64.ofInt (zRo 1000 (i : Int)))) (i := Int32.ofInt i) (v := .long (Int64.ofInt (zRo 1000 i))) C.1 C.2.1 C.2.2.2.2.2.1.2.2.2.2.1.1 hS (zvp_in (zokh hs) hi) (by show Value.long (Int64.ofInt (zRo 1000 ((Int32.ofInt i).toNatClampNeg : Int))) = _; rw [zof_toN (zokh hs), show ((i.toNat : Nat) : Int) = i from by omega]) hd ?_
    exact k
  · cases h1
    refine va_tl (A := zA g) (t := zad g 1001) (N := 8) (f := fun i => .long (Int64.ofInt (zRo 1001 (i : Int)))) (i := Int32.ofInt i) (v := .long (Int64.ofInt (zRo 1001 i))) C.1 C.2.1 C.2.2.2.2.2.1.2.2.2.2.1.2 hS (zvp_in (zokh hs) hi) (by show Value.long (Int64.ofInt (zRo 1001 ((Int32.ofInt i).toNatClampNeg : Int))) = _; rw [zof_toN (zokh hs), show ((i.toNat : Nat) : Int) = i from by omega]) hd ?_
    exact k
end ZC
