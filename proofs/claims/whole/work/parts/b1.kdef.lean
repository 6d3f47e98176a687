-- needs b0
/-! WHAT THE CONSTRUCTORS MAKE: a world of concrete data, cell by cell; addresses by a function -/
abbrev kV : Type := Option (Int ⊕ Nat)
abbrev kE : Type := (Nat × List kV) ⊕ (Nat × Nat × List Int)
def kval (ad : Nat → Nat) : kV → Value
  | none => .null
  | some (.inl n) => .int (Int32.ofInt n)
  | some (.inr k) => .ref (ad k)
def kq (ad : Nat → Nat) (x : Int) : Option Nat := if x < 0 then none else some (ad x.toNat)
def kcell (g : zG) (ad : Nat → Nat) : kE → va_E
  | .inl (c, fs) => .inr (c, fs.map (kval ad))
  | .inr (t, n, l) => match t with
    | 1 => .inl (zcA g 0, n, .inl (fun i => Int32.ofInt (l.getD i 0)))
    | 2 => .inl (zcA g 1, n, .inl (fun i => Int32.ofInt (l.getD i 0)))
    | 3 => .inl (zcA g 2, n, .inl (fun i => Int32.ofInt (l.getD i 0)))
    | 4 => .inl (zcA g 3, n, .inr (.inl (fun i => Int64.ofInt (l.getD i 0))))
    | _ => .inl (zcA g 4, n, .inr (.inr (.inr (.inr (fun i => kq ad (l.getD i (-1)))))))
def kW (g : zG) (ad : Nat → Nat) : Nat → List kE → va_W
  | _, [] => []
  | k, x :: r => (ad k, kcell g ad x) :: kW g ad (k + 1) r
def kokv (N : Nat) : kV → Bool
  | some (.inr k) => Nat.blt k N
  | _ => true
def kokE (N : Nat) : kE → Bool
  | .inl q => q.2.all (kokv N)
  | .inr q => q.2.2.all (fun x => decide (x < (N : Int))) || (Nat.ble 1 q.1 && Nat.ble q.1 4)
def kok (N : Nat) (E : List kE) : Bool := E.all (kokE N)
def kokl (N : Nat) (l : List kV) : Bool := l.all (kokv N)
def kset (d : Int) : List Int → Nat → Int → List Int
  | [], 0, x => [x]
  | [], i + 1, x => d :: kset d [] i x
  | _ :: l, 0, x => x :: l
  | a :: l, i + 1, x => a :: kset d l i x
theorem kset_get (d : Int) : ∀ (l : List Int) (i : Nat) (x : Int) (j : Nat), (kset d l i x).getD j d = if j = i then x else l.getD j d
  | [], 0, x, 0 => rfl
  | [], 0, x, j + 1 => rfl
  | [], i + 1, x, 0 => rfl
  | [], i + 1, x, j + 1 => by
    have := kset_get d [] i x j
    show (kset d [] i x).getD j d = _
    rw [this]
    by_cases h : j = i
    · rw [if_pos h, if_pos (by omega)]
    · rw [if_neg h, if_neg (by omega)]
      rfl
  | a :: l, 0, x, 0 => rfl
  | a :: l, 0, x, j + 1 => rfl
  | a :: l, i + 1, x, 0 => rfl
  | a :: l, i + 1, x, j + 1 => by
    have := kset_get d l i x j
    show (kset d l i x).getD j d = _
    rw [this]
    by_cases h : j = i
    · rw [if_pos h, if_pos (by omega)]
    · rw [if_neg h, if_neg (by omega)]
      rfl
section
variable {g : zG} {ad ad' : Nat → Nat}
theorem kW_len : ∀ (E : List kE) (k : Nat), (kW g ad k E).length = E.length
  | [], _ => rfl
  | _ :: r, k => by
    show (kW g ad (k + 1) r).length + 1 = r.length + 1
    rw [kW_len r]
theorem kW_get : ∀ (E : List kE) (k j : Nat) {x : kE}, E[j]? = some x → (kW g ad k E)[j]? = some (ad (k + j), kcell g ad x)
  | [], k, j, x, h => by cases h
  | y :: r, k, 0, x, h => by
    cases h
    rfl
  | y :: r, k, j + 1, x, h => by
    have := kW_get r (k + 1) j (x := x) h
    rw [show k + (j + 1) = k + 1 + j from by omega]
    exact this
theorem kW_set : ∀ (E : List kE) (k j : Nat) (x : kE), (kW g ad k E).set j (ad (k + j), kcell g ad x) = kW g ad k (E.set j x)
  | [], k, j, x => rfl
  | y :: r, k, 0, x => rfl
  | y :: r, k, j + 1, x => by
    show _ :: (kW g ad (k + 1) r).set j _ = _ :: kW g ad (k + 1) (r.set j x)
    rw [show k + (j + 1) = k + 1 + j from by omega, kW_set r]
theorem kW_app : ∀ (E : List kE) (k : Nat) (x : kE), kW g ad k (E ++ [x]) = kW g ad k E ++ [(ad (k + E.length), kcell g ad x)]
  | [], k, x => rfl
  | y :: r, k, x => by
    show _ :: kW g ad (k + 1) (r ++ [x]) = _ :: (kW g ad (k + 1) r ++ _)
    rw [kW_app r, show k + (y :: r).length = k + 1 + r.length from by rw [List.length_cons]; omega]
theorem kval_ad {N : Nat} (h : ∀ j, j < N → ad' j = ad j) {v : kV} (hv : kokv N v = true) : kval ad' v = kval ad v := by
  rcases v with _ | n | k
  · rfl
  · rfl
  · show Value.ref (ad' k) = Value.ref (ad k)
    rw [h k (Nat.le_of_ble_eq_true hv)]
theorem kvals_ad {N : Nat} (h : ∀ j, j < N → ad' j = ad j) {l : List kV} (hv : kokl N l = true) : l.map (kval ad') = l.map (kval ad) :=
  List.map_congr_left (fun v hm => kval_ad h (List.all_eq_true.mp hv v hm))
theorem kq_ad {N : Nat} (h : ∀ j, j < N → ad' j = ad j) {x : Int} (hx : x < (N : Int)) : kq ad' x = kq ad x := by
  unfold kq
  split
  · rfl
  · rw [h x.toNat (by omega)]
theorem kgetD_lt {N : Nat} {l : List Int} (h : l.all (fun x => decide (x < (N : Int))) = true) (i : Nat) : l.getD i (-1) < (N : Int) := by
  rw [List.getD_eq_getElem?_getD]
  rcases hx : l[i]? with _ | x
  · show (-1 : Int) < _
    omega
  · exact of_decide_eq_true (List.all_eq_true.mp h x (List.mem_of_getElem? hx))
theorem kcell_ad {N : Nat} (h : ∀ j, j < N → ad' j = ad j) {x : kE} (hx : kokE N x = true) : kcell g ad' x = kcell g ad x := by
  rcases x with ⟨c, fs⟩ | ⟨t, n, l⟩
  · show Sum.inr (c, fs.map (kval ad')) = Sum.inr (c, fs.map (kval ad))
    rw [kvals_ad h hx]
  · have e9 : l.all (fun x => decide (x < (N : Int))) = true → (fun i => kq ad' (l.getD i (-1))) = (fun i => kq ad (l.getD i (-1))) := by
      intro ha
      funext i
      exact kq_ad h (kgetD_lt ha i)
    have hx : (l.all (fun x => decide (x < (N : Int))) || (Nat.ble 1 t && Nat.ble t 4)) = true := hx
    rw [Bool.or_eq_true] at hx
    match t with
    | 0 =>
      have ha := hx.resolve_right (fun q => nomatch q)
      simp only [kcell]; rw [e9 ha]
    | 1 => rfl
    | 2 => rfl
    | 3 => rfl
    | 4 => rfl
    | q + 5 =>
      have ha := hx.resolve_right (fun q9 => nomatch q9)
      simp only [kcell]; rw [e9 ha]
theorem kW_ad {N : Nat} (h : ∀ j, j < N → ad' j = ad j) : ∀ (E : List kE) (k : Nat), kok N E = true → k + E.length ≤ N → kW g ad' k E = kW g ad k E
  | [], _, _, _ => rfl
  | x :: r, k, hk, hl => by
    unfold kok at hk
    rw [List.all_cons, Bool.and_eq_true] at hk
    rw [List.length_cons] at hl
    show (ad' k, kcell g ad' x) :: kW g ad' (k + 1) r = (ad k, kcell g ad x) :: kW g ad (k + 1) r
    rw [h k (by omega), kcell_ad h hk.1, kW_ad h r (k + 1) hk.2 (by omega)]
end
/-- the world lies in the heap -/
def kRel (g : zG) (ad : Nat → Nat) (E : List kE) (H : Heap) : Prop := va_P (zD g) vwCl (kW g ad 0 E) H ∧ va_D (zA g) (kW g ad 0 E)
/-- the private constructors: words of nest mates -/
def kNm : List (Nat × MethodName) := [(18, yX3_init), (25, yX6_init), (32, yX5_init)]
def kSt (g : zG) (U : State) : Prop := va_K (zD g) vwCl (zTy g) U ∧ va_AO RX7 U ∧ ∀ q ∈ kNm, va_Nw (.methodLinkNest RX11 q.1 q.2 RX11) U
def kCx (g : zG) (d : Nat) (M : zMeth) (p : Program) (R : Room) (s : State) (m : MethodId) (args : Array Value) (meth : Method) (c : Code) : Prop :=
  p.tables.exec = Jvm.exec ∧ c.code = M.2.1 ∧ c.maxLocals = M.2.2.1 ∧ s.vm.findClass (zOwn.getD M.2.2.2.2.1 "") = some m.cls ∧ (∀ w ∈ zTb, w.before args s = true) ∧ kSt g s ∧ d ≤ R.frames ∧ 64 * d ≤ R.locals ∧ (M.1.name = "<init>" → meth.name = "<init>") ∧ g.2.2.2.2.2 ≤ s.heap.size
def klook : List (Nat × kV) → Nat → Option kV
  | [], _ => none
  | q :: l, i => bif Nat.beq q.1 i then some q.2 else klook l i
def kst (lv : List (Nat × kV)) (i : Nat) (v : kV) : List (Nat × kV) := (i, v) :: lv.filter (fun q => !(q.1 == i))
def kL (ad : Nat → Nat) (lv : List (Nat × kV)) : List (Nat × Value) := lv.map (fun q => (q.1, kval ad q.2))
theorem klook_mem : ∀ (lv : List (Nat × kV)) (i : Nat) (v : kV), klook lv i = some v → (i, v) ∈ lv
  | [], i, v, h => by cases h
  | q :: l, i, v, h => by
    unfold klook at h
    cases hb : Nat.beq q.1 i
    · rw [hb] at h
      exact List.mem_cons_of_mem _ (klook_mem l i v h)
    · rw [hb] at h
      cases h
      rw [← Nat.eq_of_beq_eq_true hb]
      exact List.mem_cons_self
theorem kL_at {ad : Nat → Nat} {lv : List (Nat × kV)} {ls : Array Slot} {nL i : Nat} {v : kV} (h : lv_has ls nL (kL ad lv)) (hl : klook lv i = some v) : ls[i]? = some (.val (kval ad v)) :=
  h.2.2 (i, kval ad v) (List.mem_map.mpr ⟨(i, v), klook_mem lv i v hl, rfl⟩)
theorem kval_cat (ad : Nat → Nat) (v : kV) : (kval ad v).category = 1 := by
  rcases v with _ | n | k <;> rfl
theorem kL_st {ad : Nat → Nat} {lv : List (Nat × kV)} {i : Nat} {v : kV} : (i, kval ad v) :: (kL ad lv).filter (fun q => !(q.1 == i) && !(q.1 + 1 == i && q.2.category == 2)) = kL ad (kst lv i v) := by
  unfold kst
  show _ = (i, kval ad v) :: kL ad (lv.filter _)
  congr 1
  unfold kL
  rw [List.filter_map]
  congr 1
  apply List.filter_congr
  intro q _
  show (!(q.1 == i) && !(q.1 + 1 == i && (kval ad q.2).category == 2)) = !(q.1 == i)
  rw [kval_cat]
  simp
def kokL (N : Nat) (lv : List (Nat × kV)) : Bool := lv.all (fun q => kokv N q.2)
theorem kL_ad {N : Nat} {ad ad' : Nat → Nat} (h : ∀ j, j < N → ad' j = ad j) {lv : List (Nat × kV)} (hv : kokL N lv = true) : kL ad' lv = kL ad lv :=
  List.map_congr_left (fun q hm => by rw [kval_ad h (List.all_eq_true.mp hv q hm)])
