-- needs ba
/-! the made world is the picture's first memory -/
def kfv (fs : List kV) (i : Int) : Int := match fs[i.toNat]? with
  | some (some (.inl n)) => n
  | some (some (.inr k)) => (k : Int)
  | some none => -1
  | none => 0
def kmE : kE → Int → Int
  | .inl q => kfv q.2
  | .inr q => fun i => q.2.2.getD i.toNat 0
def kmu (E : List kE) : zM := fun j => match E[j]? with
  | some x => kmE x
  | none => fun _ => 0
def kg (g : zG) (ad : Nat → Nat) : zG := (g.1, g.2.1, g.2.2.1, g.2.2.2.1, fun j => bif Nat.blt j 177 then ad j else zad g j, g.2.2.2.2.2)
def kfl (j : Nat) (m : Int → Int) (k : Nat) (fi : zFI) (v : kV) : Bool := match fi, v with
  | .inl _, some (.inl n) => decide (m k = n)
  | .inr (.inl (_, .inl a)), some (.inr b) => Nat.beq b a && Nat.blt a 177
  | .inr (.inl (_, .inr o)), some (.inr b) => Nat.beq b (j + o) && Nat.blt (j + o) 177
  | .inr (.inr _), none => decide (m k < 0)
  | .inr (.inr _), some (.inr b) => decide (0 ≤ m k) && (Nat.beq b (m k).toNat && Nat.blt (m k).toNat 177)
  | _, _ => false
def kfls (j : Nat) (m : Int → Int) : Nat → List zFI → List kV → Bool
  | _, [], [] => true
  | k, fi :: l, v :: r => kfl j m k fi v && kfls j m (k + 1) l r
  | _, _, _ => false
def kft (t : zT0) (i : Nat) (v : Int) : Bool := match t.1 with
  | 0 => (match (zFl.getD t.2 [])[i]? with
    | some (.inl 0) => decide (-2147483648 ≤ v) && decide (v ≤ 2147483647)
    | some (.inl _) => decide (v = 0) || decide (v = 1)
    | _ => true)
  | 1 => decide (-2147483648 ≤ v) && decide (v ≤ 2147483647)
  | 2 => decide (v = 0) || decide (v = 1)
  | 3 => decide (-128 ≤ v) && decide (v ≤ 127)
  | 4 => decide (-9223372036854775808 ≤ v) && decide (v ≤ 9223372036854775807)
  | _ => true
theorem kft_ok {t : zT0} {i : Int} {v : Int} (h : kft t i.toNat v = true) : zfit t i v := by
  unfold kft at h
  unfold zfit
  split at h
  · rename_i e
    rw [e]
    show match (zFl.getD t.2 [])[i.toNat]? with
    | some (.inl 0) => zI32 v
    | some (.inl _) => v = 0 ∨ v = 1
    | _ => True
    split at h
    · rw [Bool.and_eq_true] at h
      exact ⟨of_decide_eq_true h.1, of_decide_eq_true h.2⟩
    · rw [Bool.or_eq_true] at h
      exact h.imp of_decide_eq_true of_decide_eq_true
    · trivial
  · rename_i e
    rw [e]
    rw [Bool.and_eq_true] at h
    exact ⟨of_decide_eq_true h.1, of_decide_eq_true h.2⟩
  · rename_i e
    rw [e]
    rw [Bool.or_eq_true] at h
    exact h.imp of_decide_eq_true of_decide_eq_true
  · rename_i e
    rw [e]
    rw [Bool.and_eq_true] at h
    exact ⟨of_decide_eq_true h.1, of_decide_eq_true h.2⟩
  · rename_i e
    rw [e]
    rw [Bool.and_eq_true] at h
    exact ⟨of_decide_eq_true h.1, of_decide_eq_true h.2⟩
  · rename_i h0 h1 h2 h3 h4
    split <;> first | trivial | contradiction
def kchk (j : Nat) (t : zT0) (x : kE) : Bool := match x with
  | .inl (c, fs) => (Nat.beq t.1 0 && Nat.beq t.2 c) && (kfls j (kfv fs) 0 (zFl.getD t.2 []) fs && (List.range (zFl.getD t.2 []).length).all (fun i => kft t i (kfv fs (i : Int))))
  | .inr (k, n, l) => (Nat.beq t.1 k && Nat.beq t.2 n) && (Nat.ble 1 k && ((l.all (fun v => kft t 0 v) && kft t 0 0) && (Nat.ble k 4 || (List.range n).all (fun i => decide (l.getD i (-1) = ((zBs j + 5 * i : Nat) : Int)) && Nat.blt (zBs j + 5 * i) 177))))
def kzip : Nat → List zT0 → List kE → Bool
  | _, [], [] => true
  | k, t :: l, x :: r => kchk k t x && kzip (k + 1) l r
  | _, _, _ => false
theorem kzip_ok : ∀ (l : List zT0) (r : List kE) (k : Nat), kzip k l r = true → ∀ (j : Nat) (t : zT0), l[j]? = some t → ∃ x, r[j]? = some x ∧ kchk (k + j) t x = true
  | [], _, _, _, _, _, h => by cases h
  | _ :: _, [], _, h, _, _, _ => by cases h
  | t :: l, x :: r, k, h, 0, t', e => by
    cases e
    unfold kzip at h
    rw [Bool.and_eq_true] at h
    exact ⟨x, rfl, h.1⟩
  | t :: l, x :: r, k, h, j + 1, t', e => by
    unfold kzip at h
    rw [Bool.and_eq_true] at h
    obtain ⟨y, h1, h2⟩ := kzip_ok l r (k + 1) h.2 j t' e
    refine ⟨y, h1, ?_⟩
    rw [show k + (j + 1) = k + 1 + j from by omega]
    exact h2
set_option maxRecDepth 100000 in
theorem kzip_3 : kzip 0 zSh kE3 = true := by decide +kernel
section
variable {g : zG} {ad : Nat → Nat}
theorem kg_lt {j : Nat} (h : Nat.blt j 177 = true) : zad (kg g ad) j = ad j := by
  show (bif Nat.blt j 177 then ad j else zad g j) = ad j
  rw [h]
  rfl
theorem kfl_ok {j k : Nat} {m : Int → Int} {fi : zFI} {v : kV} (h : kfl j m k fi v = true) : kval ad v = zFv (kg g ad) j m k fi := by
  unfold kfl at h
  split at h
  · rename_i n
    have h := of_decide_eq_true h
    show Value.int (Int32.ofInt n) = Value.int (Int32.ofInt (m k))
    rw [h]
  · rename_i q a b
    rw [Bool.and_eq_true] at h
    show Value.ref (ad b) = Value.ref (zad (kg g ad) a)
    rw [kg_lt h.2, Nat.eq_of_beq_eq_true h.1]
  · rename_i q o b
    rw [Bool.and_eq_true] at h
    show Value.ref (ad b) = Value.ref (zad (kg g ad) (j + o))
    rw [kg_lt h.2, Nat.eq_of_beq_eq_true h.1]
  · have h := of_decide_eq_true h
    show Value.null = if m k < 0 then Value.null else _
    rw [if_pos h]
  · rename_i q b
    rw [Bool.and_eq_true, Bool.and_eq_true] at h
    have h0 := of_decide_eq_true h.1
    show Value.ref (ad b) = if m k < 0 then Value.null else Value.ref (zad (kg g ad) (m k).toNat)
    rw [if_neg (by omega), kg_lt h.2.2, Nat.eq_of_beq_eq_true h.2.1]
  · cases h
theorem kfls_ok {j : Nat} {m : Int → Int} : ∀ (l : List zFI) (r : List kV) (k : Nat), kfls j m k l r = true → r.map (kval ad) = zFs (kg g ad) j m k l
  | [], [], _, _ => rfl
  | [], _ :: _, _, h => by cases h
  | _ :: _, [], _, h => by cases h
  | fi :: l, v :: r, k, h => by
    unfold kfls at h
    rw [Bool.and_eq_true] at h
    show kval ad v :: r.map (kval ad) = zFv (kg g ad) j m k fi :: zFs (kg g ad) j m (k + 1) l
    rw [kfl_ok h.1, kfls_ok l r (k + 1) h.2]
theorem karrV {cI : ClassId} {N : Nat} {f f' : Nat → Value} (h : ∀ j, j < N → f j = f' j) : arrV cI N f = arrV cI N f' := by
  unfold arrV
  have : (fun j : Fin N => f j.val) = (fun j : Fin N => f' j.val) := by
    funext j
    exact h j.val j.isLt
  rw [this]
theorem kcell_z {H : Heap} {j a : Nat} {t : zT0} {x : kE} (h : kchk j t x = true) (hv : va_at (zD g) vwCl (a, kcell g ad x) H) : va_at (zD (kg g ad)) vwCl (a, zE (kg g ad) j t (kmE x)) H := by
  obtain ⟨t1, t2⟩ := t
  rcases x with ⟨c, fs⟩ | ⟨k, n, l⟩
  · unfold kchk at h
    simp only [Bool.and_eq_true] at h
    obtain ⟨⟨h1, h2⟩, h3, -⟩ := h
    have h1 : t1 = 0 := Nat.eq_of_beq_eq_true h1
    have h2 : t2 = c := Nat.eq_of_beq_eq_true h2
    subst h1
    subst h2
    have e : zE (kg g ad) j (0, t2) (kmE (.inl (t2, fs))) = kcell g ad (.inl (t2, fs)) := by
      show Sum.inr (t2, zFs (kg g ad) j (kfv fs) 0 (zFl.getD t2 [])) = Sum.inr (t2, fs.map (kval ad))
      rw [kfls_ok _ _ _ h3]
    rw [e]
    exact hv
  · unfold kchk at h
    simp only [Bool.and_eq_true] at h
    obtain ⟨⟨h1, h2⟩, h3, -, h4⟩ := h
    have h1 : t1 = k := Nat.eq_of_beq_eq_true h1
    have h2 : t2 = n := Nat.eq_of_beq_eq_true h2
    subst h1
    subst h2
    match t1, h3, h4, hv with
    | 0, h3, _, _ => cases h3
    | 1, _, _, hv => exact hv
    | 2, _, _, hv => exact hv
    | 3, _, _, hv => exact hv
    | 4, _, _, hv => exact hv
    | q + 5, _, h4, hv =>
      have h4 : (List.range t2).all (fun i => decide (l.getD i (-1) = ((zBs j + 5 * i : Nat) : Int)) && Nat.blt (zBs j + 5 * i) 177) = true := h4
      have hv : H[a]? = some (arrV (zcA g 4) t2 (fun i => va_rf (kq ad (l.getD i (-1))))) := hv
      show H[a]? = some (arrV (zcA g 4) t2 (fun i => va_rf (some (zad (kg g ad) (zBs j + 5 * i)))))
      rw [hv]
      congr 1
      apply karrV
      intro i hi
      have := List.all_eq_true.mp h4 i (List.mem_range.mpr hi)
      rw [Bool.and_eq_true] at this
      have e1 := of_decide_eq_true this.1
      rw [e1, kg_lt this.2]
      unfold kq
      rw [if_neg (by omega)]
      rfl
theorem kgetD_all {l : List Int} {f : Int → Bool} (h : l.all f = true) (h0 : f 0 = true) (i : Nat) : f (l.getD i 0) = true := by
  rw [List.getD_eq_getElem?_getD]
  rcases hx : l[i]? with _ | x
  · exact h0
  · exact List.all_eq_true.mp h x (List.mem_of_getElem? hx)
theorem kchk_fit {j : Nat} {t : zT0} {x : kE} (h : kchk j t x = true) {i : Int} (hi : 0 ≤ i) (h0 : t.1 = 0 → i.toNat < (zFl.getD t.2 []).length) : zfit t i (kmE x i) := by
  obtain ⟨t1, t2⟩ := t
  rcases x with ⟨c, fs⟩ | ⟨k, n, l⟩
  · unfold kchk at h
    simp only [Bool.and_eq_true] at h
    obtain ⟨⟨h1, h2⟩, h3, h4⟩ := h
    have h1 : t1 = 0 := Nat.eq_of_beq_eq_true h1
    have := List.all_eq_true.mp h4 i.toNat (List.mem_range.mpr (h0 h1))
    have e : ((i.toNat : Nat) : Int) = i := by omega
    rw [e] at this
    exact kft_ok this
  · unfold kchk at h
    simp only [Bool.and_eq_true] at h
    obtain ⟨⟨h1, h2⟩, h3, ⟨h5, h6⟩, h4⟩ := h
    have h1 : t1 = k := Nat.eq_of_beq_eq_true h1
    subst h1
    have q : kft (t1, t2) 0 (l.getD i.toNat 0) = true := kgetD_all (f := fun v => kft (t1, t2) 0 v) h5 h6 i.toNat
    have q2 : kft (t1, t2) i.toNat (l.getD i.toNat 0) = true := by
      match t1, h3, q with
      | 0, h3, _ => cases h3
      | 1, _, q => exact q
      | 2, _, q => exact q
      | 3, _, q => exact q
      | 4, _, q => exact q
      | z + 5, _, q => exact q
    exact kft_ok q2
theorem kmu_at {E : List kE} {j : Nat} {x : kE} (h : E[j]? = some x) : kmu E j = kmE x := by
  unfold kmu
  rw [h]
theorem kRel_z {H : Heap} (h : kRel g ad kE3 H) : zRel (kg g ad) (kmu kE3) H := by
  refine ⟨fun j q hq => ?_, fun j t i hj hi h0 _ => ?_⟩
  · have hq' := hq
    unfold zW at hq'
    rw [zWs_get] at hq'
    rcases ht : zSh[j]? with _ | t
    · rw [ht] at hq'
      cases hq'
    · rw [ht] at hq'
      have hq2 : some (zad (kg g ad) (0 + j), zE (kg g ad) (0 + j) t (kmu kE3 (0 + j))) = some q := hq'
      rw [Nat.zero_add] at hq2
      obtain ⟨x, hx, hk⟩ := kzip_ok zSh kE3 0 kzip_3 j t ht
      rw [Nat.zero_add] at hk
      have hlt : Nat.blt j 177 = true := by
        have := (List.getElem?_eq_some_iff.mp ht).1
        exact Nat.ble_eq_true_of_le this
      rw [kg_lt hlt, kmu_at hx] at hq2
      cases hq2
      have hv := h.1 j _ (kW_get kE3 0 j hx)
      rw [Nat.zero_add] at hv
      exact kcell_z hk hv
  · obtain ⟨x, hx, hk⟩ := kzip_ok zSh kE3 0 kzip_3 j t hj
    rw [Nat.zero_add] at hk
    rw [kmu_at hx]
    exact kchk_fit hk hi h0
theorem kAd_z {H : Heap} (h : kRel g ad kE3 H) (h1 : ¬ zA g (zad g 1000)) (h2 : ¬ zA g (zad g 1001)) : zAd (kg g ad) := by
  have hx : ∀ i : Nat, i < 177 → ∃ x, kE3[i]? = some x := fun i hi => by
    have hl : zSh.length = 177 := by decide +kernel
    obtain ⟨x, hx, -⟩ := kzip_ok zSh kE3 0 kzip_3 i zSh[i] (List.getElem?_eq_getElem (by omega))
    exact ⟨x, hx⟩
  refine ⟨fun i j hi hj e => ?_, fun i hi => ?_, h1, h2⟩
  · rw [kg_lt (Nat.ble_eq_true_of_le hi), kg_lt (Nat.ble_eq_true_of_le hj)] at e
    obtain ⟨x, hx1⟩ := hx i hi
    obtain ⟨y, hy1⟩ := hx j hj
    refine h.2.1 i j _ _ (kW_get kE3 0 i hx1) (kW_get kE3 0 j hy1) ?_
    show ad (0 + i) = ad (0 + j)
    rw [Nat.zero_add, Nat.zero_add]
    exact e
  · rw [kg_lt (Nat.ble_eq_true_of_le hi)]
    obtain ⟨x, hx1⟩ := hx i hi
    have := h.2.2 i _ (kW_get kE3 0 i hx1)
    rw [Nat.zero_add] at this
    exact this
end
