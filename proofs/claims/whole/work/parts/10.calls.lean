/-! constants of pools, switches, calls -/
section ZF
variable {g : zG} {d : Nat} {M : zMeth} {K : Option zV → zM → Prop} {pc : Nat} {lv : zL} {st : List zV} {μ : zM} {x y : Int}
theorem zs_ldc {i : Nat} {v : Int} (hd : decode M.2.1 pc = .ok (.ldc i, 2)) (hv : zI32 v) (hw : Cond.constant (zOwn.getD M.2.2.2.2.1 "") i (Int32.ofInt v) ∈ zTb) (h : zTm g d M K (pc + 2) lv (.inl v :: st) μ) : zTm g d M K pc lv st μ :=
  h.keep (fun hs _ _ => zok0 hs hv) (fun p e R s m args below meth c H locs cells slots Q ls C hl hs hr hS k => lv_ldc C.1 C.2.1 C.2.2.2.1 (C.2.2.2.2.1 _ hw) hd k)
theorem zs_ldcw {i : Nat} {v : Int} (hd : decode M.2.1 pc = .ok (.ldc_w i, 3)) (hv : zI32 v) (hw : Cond.constant (zOwn.getD M.2.2.2.2.1 "") i (Int32.ofInt v) ∈ zTb) (h : zTm g d M K (pc + 3) lv (.inl v :: st) μ) : zTm g d M K pc lv st μ :=
  h.keep (fun hs _ _ => zok0 hs hv) (fun p e R s m args below meth c H locs cells slots Q ls C hl hs hr hS k => lv_ldcw C.1 C.2.1 C.2.2.2.1 (C.2.2.2.2.1 _ hw) hd k)
theorem zs_ldc2 {i : Nat} {v : Int} (hd : decode M.2.1 pc = .ok (.ldc2_w i, 3)) (hv : zI64 v) (hw : Cond.constantLong (zOwn.getD M.2.2.2.2.1 "") i (Int64.ofInt v) ∈ zTb) (h : zTm g d M K (pc + 3) lv (.inr (.inl v) :: st) μ) : zTm g d M K pc lv st μ :=
  h.keep (fun hs _ _ => zok0 hs hv) (fun p e R s m args below meth c H locs cells slots Q ls C hl hs hr hS k => lv_ldc2 C.1 C.2.1 C.2.2.2.1 (C.2.2.2.2.1 _ hw) hd k)
theorem zs_stat0 {i : Nat} (hd : decode M.2.1 pc = .ok (.getstatic i, 3)) (hw : Cond.fieldLink (zOwn.getD M.2.2.2.2.1 "") i RX0 "PLACE" "[J" ∈ zTb) (h : zTm g d M K (pc + 3) lv (.inr (.inr ((6, 6), 1000)) :: st) μ) : zTm g d M K pc lv st μ :=
  h.keep (fun hs _ _ => zok0 hs (Or.inr (Or.inl rfl))) (fun p e R s m args below meth c H locs cells slots Q ls C hl hs hr hS k => va_gets (ref := RX0) C.1 C.2.1 C.2.2.2.2.2.1.2.2.1 hS C.2.2.2.1 (C.2.2.2.2.1 _ hw) (fun _ h9 => h9) hd k)
theorem zs_stat1 {i : Nat} (hd : decode M.2.1 pc = .ok (.getstatic i, 3)) (hw : Cond.fieldLink (zOwn.getD M.2.2.2.2.1 "") i RX8 "PLACE" "[J" ∈ zTb) (h : zTm g d M K (pc + 3) lv (.inr (.inr ((6, 8), 1001)) :: st) μ) : zTm g d M K pc lv st μ :=
  h.keep (fun hs _ _ => zok0 hs (Or.inr (Or.inr rfl))) (fun p e R s m args below meth c H locs cells slots Q ls C hl hs hr hS k => va_gets (ref := RX8) C.1 C.2.1 C.2.2.2.2.2.1.2.2.2.1 hS C.2.2.2.1 (C.2.2.2.2.1 _ hw) (fun _ h9 => h9) hd k)
theorem ztab_get {f : Int → Prop} : ∀ (os : List Int) (v : Int), ztab x f v os → v ≤ x → ∀ o, os[(x - v).toNat]? = some o → f o
  | [], v, h, hv, o, ho => by simp at ho
  | a :: os, v, h, hv, o, ho => by
    by_cases e : x = v
    · subst e
      rw [Int.sub_self] at ho
      cases ho
      exact h.1 rfl
    · have e2 : (x - v).toNat = (x - (v + 1)).toNat + 1 := by omega
      rw [e2, List.getElem?_cons_succ] at ho
      exact ztab_get os (v + 1) h.2 (by omega) o ho
theorem zs_tab {dflt lo hi : Int} {offs : Array Int} {len : Nat} (hd : decode M.2.1 pc = .ok (.tableswitch dflt lo hi offs, len)) (hn : (offs.toList.length : Int) = hi - lo + 1) (hall : ∀ o ∈ dflt :: offs.toList, 0 ≤ (pc : Int) + o)
    (h1 : x < lo ∨ hi < x → zTm g d M K ((pc : Int) + dflt).toNat lv st μ) (h2 : ztab x (fun o => zTm g d M K ((pc : Int) + o).toNat lv st μ) lo offs.toList) : zTm g d M K pc lv (.inl x :: st) μ := by
  intro p e R s m args below meth c H locs cells slots Q ls C hl hs hv hr hS hret
  have go : ∀ {pc9 : Nat}, zTm g d M K pc9 lv st μ → W p g.1 e R s m args below meth c H locs cells slots Q (F0 m pc9 ls (st.map (zR g))) := fun hT => hT p e R s m args below meth c H locs cells slots Q ls C hl (zokt hs) hv hr hS hret
  have hx : (Int32.ofInt x).toInt = x := zto_of (zokh hs)
  by_cases hc : x < lo ∨ hi < x
  · have h0 := hall dflt List.mem_cons_self
    exact lv_tableOut (x := Int32.ofInt x) C.1 C.2.1 hd (by rw [hx]; exact hc) (by omega) (go (h1 hc))
  · have hlt : (x - lo).toNat < offs.toList.length := by omega
    have ho : offs.toList[(x - lo).toNat]? = some offs.toList[(x - lo).toNat] := List.getElem?_eq_getElem hlt
    have h0 := hall _ (List.mem_cons_of_mem _ (List.mem_of_getElem? ho))
    exact lv_tableIn (x := Int32.ofInt x) (off := offs.toList[(x - lo).toNat]) C.1 C.2.1 hd (by rw [hx]; omega) (by rw [hx]; omega) (by rw [hx, ← Array.getElem?_toList]; exact ho) (by omega) (go (ztab_get offs.toList lo h2 (by omega) _ ho))
theorem zs_lsw {dflt : Int} {ps : Array (Int × Int)} {len : Nat} (hd : decode M.2.1 pc = .ok (.lookupswitch dflt ps, len)) (hp : (ps.toList.zip (ps.toList.drop 1)).all (fun (a, next) => a.1 < next.1) = true) (hall : ∀ o ∈ dflt :: ps.toList.map (·.2), 0 ≤ (pc : Int) + o)
    (h : zlsw x (fun o => zTm g d M K ((pc : Int) + o).toNat lv st μ) dflt ps.toList) : zTm g d M K pc lv (.inl x :: st) μ := by
  intro p e R s m args below meth c H locs cells slots Q ls C hl hs hv hr hS hret
  have go : ∀ {pc9 : Nat}, zTm g d M K pc9 lv st μ → W p g.1 e R s m args below meth c H locs cells slots Q (F0 m pc9 ls (st.map (zR g))) := fun hT => hT p e R s m args below meth c H locs cells slots Q ls C hl (zokt hs) hv hr hS hret
  have hx : (Int32.ofInt x).toInt = x := zto_of (zokh hs)
  have key : ∀ l : List (Int × Int), (∀ o ∈ dflt :: l.map (·.2), 0 ≤ (pc : Int) + o) → zlsw x (fun o => zTm g d M K ((pc : Int) + o).toNat lv st μ) dflt l → 0 ≤ (pc : Int) + Op.lookupswitch.offset l dflt x ∧ zTm g d M K ((pc : Int) + Op.lookupswitch.offset l dflt x).toNat lv st μ := by
    intro l
    induction l with
    | nil => intro ha h; exact ⟨ha _ List.mem_cons_self, h⟩
    | cons q l ih =>
      intro ha h
      rw [show q :: l = (q.1, q.2) :: l from rfl, Op.lookupswitch.offset_cons]
      by_cases e : x = q.1
      · rw [if_pos (by simpa using e.symm)]
        exact ⟨ha q.2 (by simp), h.1 e⟩
      · rw [if_neg (by simpa using fun e9 => e e9.symm)]
        exact ih (fun o ho => ha o (by
          rcases List.mem_cons.mp ho with rfl | ho
          · exact List.mem_cons_self
          · exact List.mem_cons_of_mem _ (by simpa using Or.inr (by simpa using ho)))) (h.2 e)
  obtain ⟨k1, k2⟩ := key ps.toList hall h
  exact lv_lookup (x := Int32.ofInt x) (off := Op.lookupswitch.offset ps.toList dflt x) C.1 C.2.1 hd hp (by rw [hx]) (by omega) (go k2)
-- Math
theorem zcats_eq (g : zG) : ∀ l : List zV, ((l.map (zR g)).map fun v => v.category).sum = zcats l
  | [] => rfl
  | v :: l => by
    rw [List.map_cons, List.map_cons, List.sum_cons, zcats_eq g l]
    rcases v with a | a | a <;> rfl
/-- the words of Math's methods that a pool names -/
def zPm (own i : Nat) (y : MethodName) (code : ByteArray) (n : Nat) : Prop := Cond.methodLink (zOwn.getD own "") i y ∈ zTb ∧ Cond.static y ∈ zTb ∧ Cond.initialized "java/lang/Math" ∈ zTb ∧ Cond.code y code n (some .int) ∈ zTb
theorem zs_max {i : Nat} (hd : decode M.2.1 pc = .ok (.invokestatic i, 3)) (hp : zPm M.2.2.2.2.1 i Lib.Math.max.name Lib.Math.max.code 2) (hc : zcats st ≤ 8) (hd0 : 0 < d) (h : zTm g d M K (pc + 3) lv (.inl (max x y) :: st) μ) : zTm g d M K pc lv (.inl y :: .inl x :: st) μ := by
  refine h.keep (fun hs _ hm => zok2 hs ?_) ?_
  · have h1 : zI32 y := zokh hs
    have h2 : zI32 x := zokh2 hs
    show zI32 (max x y)
    unfold zI32 at *
    omega
  intro p e R s m args below meth c H locs cells slots Q ls C hl hs hr hS k
  obtain ⟨p1, p2, p3, p4⟩ := hp
  have hw := C.2.2.2.2.1
  have hfr : d ≤ R.frames := C.2.2.2.2.2.2.1
  have hlo : 64 * d ≤ R.locals := C.2.2.2.2.2.2.2.1
  refine va_mmax (x := Int32.ofInt x) (y := Int32.ofInt y) C.1 C.2.1 (C.2.2.1.trans hl.1.symm) C.2.2.2.1 (hw _ p1) (hw _ p2) (hw _ p3) (hw _ p4) (by omega) (by rw [zcats_eq]; omega) C.2.2.2.2.2.2.2.2.1 C.2.2.2.2.2.2.2.2.2 hd ?_
  have e9 : (if Int32.ofInt x < Int32.ofInt y then Int32.ofInt y else Int32.ofInt x) = Int32.ofInt (max x y) := by
    by_cases hlt : x < y
    · rw [if_pos ((zof_lt (zokh2 hs) (zokh hs)).mpr hlt), show max x y = y from by omega]
    · rw [if_neg (fun q => hlt ((zof_lt (zokh2 hs) (zokh hs)).mp q)), show max x y = x from by omega]
  rw [e9]
  exact k
theorem zs_min {i : Nat} (hd : decode M.2.1 pc = .ok (.invokestatic i, 3)) (hp : zPm M.2.2.2.2.1 i Lib.Math.min.name Lib.Math.min.code 2) (hc : zcats st ≤ 8) (hd0 : 0 < d) (h : zTm g d M K (pc + 3) lv (.inl (min x y) :: st) μ) : zTm g d M K pc lv (.inl y :: .inl x :: st) μ := by
  refine h.keep (fun hs _ hm => zok2 hs ?_) ?_
  · have h1 : zI32 y := zokh hs
    have h2 : zI32 x := zokh2 hs
    show zI32 (min x y)
    unfold zI32 at *
    omega
  intro p e R s m args below meth c H locs cells slots Q ls C hl hs hr hS k
  obtain ⟨p1, p2, p3, p4⟩ := hp
  have hw := C.2.2.2.2.1
  have hfr : d ≤ R.frames := C.2.2.2.2.2.2.1
  have hlo : 64 * d ≤ R.locals := C.2.2.2.2.2.2.2.1
  refine va_mmin (x := Int32.ofInt x) (y := Int32.ofInt y) C.1 C.2.1 (C.2.2.1.trans hl.1.symm) C.2.2.2.1 (hw _ p1) (hw _ p2) (hw _ p3) (hw _ p4) (by omega) (by rw [zcats_eq]; omega) C.2.2.2.2.2.2.2.2.1 C.2.2.2.2.2.2.2.2.2 hd ?_
  have e9 : (if Int32.ofInt y < Int32.ofInt x then Int32.ofInt y else Int32.ofInt x) = Int32.ofInt (min x y) := by
    by_cases hlt : y < x
    · rw [if_pos ((zof_lt (zokh hs) (zokh2 hs)).mpr hlt), show min x y = y from by omega]
    · rw [if_neg (fun q => hlt ((zof_lt (zokh hs) (zokh2 hs)).mp q)), show min x y = x from by omega]
  rw [e9]
  exact k
theorem zs_abs {i : Nat} (hd : decode M.2.1 pc = .ok (.invokestatic i, 3)) (hp : zPm M.2.2.2.2.1 i Lib.Math.abs.name Lib.Math.abs.code 1) (hc : zcats st ≤ 8) (hd0 : 0 < d) (h : zTm g d M K (pc + 3) lv (.inl (zabs x) :: st) μ) : zTm g d M K pc lv (.inl x :: st) μ := by
  refine h.keep (fun hs _ hm => zok1 hs ?_) ?_
  · have h2 : zI32 x := zokh hs
    show zI32 (zabs x)
    unfold zabs
    split
    · exact h2
    · exact zI32_w _
  intro p e R s m args below meth c H locs cells slots Q ls C hl hs hr hS k
  obtain ⟨p1, p2, p3, p4⟩ := hp
  have hw := C.2.2.2.2.1
  have hfr : d ≤ R.frames := C.2.2.2.2.2.2.1
  have hlo : 64 * d ≤ R.locals := C.2.2.2.2.2.2.2.1
  refine va_mabs (x := Int32.ofInt x) C.1 C.2.1 (C.2.2.1.trans hl.1.symm) C.2.2.2.1 (hw _ p1) (hw _ p2) (hw _ p3) (hw _ p4) (by omega) (by rw [zcats_eq]; omega) C.2.2.2.2.2.2.2.2.1 C.2.2.2.2.2.2.2.2.2 hd ?_
  have e9 : (if 0 ≤ Int32.ofInt x then Int32.ofInt x else 0 - Int32.ofInt x) = Int32.ofInt (zabs x) := by
    unfold zabs
    by_cases hlt : 0 ≤ x
    · rw [if_pos (show (0 : Int32) ≤ Int32.ofInt x from (zof_le zI32_0 (zokh hs)).mpr hlt), if_pos hlt]
    · rw [if_neg (show ¬ (0 : Int32) ≤ Int32.ofInt x from fun q => hlt ((zof_le zI32_0 (zokh hs)).mp q)), if_neg hlt, zof_w, Int32.ofInt_sub]; rfl
  rw [e9]
  exact k
def zPn (own i : Nat) : Prop := Cond.methodLink (zOwn.getD own "") i Lib.MathLoose.min_long.x ∈ zTb ∧ Cond.static Lib.MathLoose.min_long.x ∈ zTb ∧ Cond.initialized "java/lang/Math" ∈ zTb ∧ Cond.code Lib.MathLoose.min_long.x Lib.MathLoose.min_long.code 4 (some .long) ∈ zTb
theorem zs_minL {i : Nat} (hd : decode M.2.1 pc = .ok (.invokestatic i, 3)) (hp : zPn M.2.2.2.2.1 i) (hc : zcats st ≤ 8) (hd0 : 0 < d) (h : zTm g d M K (pc + 3) lv (.inr (.inl (min x y)) :: st) μ) : zTm g d M K pc lv (.inr (.inl y) :: .inr (.inl x) :: st) μ := by
  refine h.keep (fun hs _ hm => zok2 hs ?_) ?_
  · have h1 : zI64 y := zokh hs
    have h2 : zI64 x := zokh2 hs
    show zI64 (min x y)
    unfold zI64 at *
    omega
  intro p e R s m args below meth c H locs cells slots Q ls C hl hs hr hS k
  obtain ⟨p1, p2, p3, p4⟩ := hp
  have hw := C.2.2.2.2.1
  have hfr : d ≤ R.frames := C.2.2.2.2.2.2.1
  have hlo : 64 * d ≤ R.locals := C.2.2.2.2.2.2.2.1
  refine va_mmin_long (x := Int64.ofInt x) (y := Int64.ofInt y) C.1 C.2.1 (C.2.2.1.trans hl.1.symm) C.2.2.2.1 (hw _ p1) (hw _ p2) (hw _ p3) (hw _ p4) (by omega) (by rw [zcats_eq]; omega) C.2.2.2.2.2.2.2.2.1 C.2.2.2.2.2.2.2.2.2 hd ?_
  have e9 : (if Int64.ofInt y < Int64.ofInt x then Int64.ofInt y else Int64.ofInt x) = Int64.ofInt (min x y) := by
    have e8 := zofL_lt (zokh hs) (zokh2 hs)
    by_cases hlt : y < x
    · rw [if_pos (e8.mpr hlt), show min x y = y from by omega]
    · rw [if_neg (fun q => hlt (e8.mp q)), show min x y = x from by omega]
  rw [e9]
  exact k
-- arraycopy
theorem zcp_off {j j' : Nat} {sp dp n : Int} (a : Nat) (h : ¬ a = j) : zcp μ j' sp j dp n a = μ a := by
  funext b
  simp [zcp, h]
theorem zcp_at (j j' : Nat) (sp dp n b : Int) : zcp μ j' sp j dp n j b = if dp ≤ b ∧ b < dp + n then μ j' (b - dp + sp) else μ j b := by
  simp [zcp]
theorem zMok_cp {j j' : Nat} {kd m1 m2 : Nat} {sp dp n : Int} (h : zMok μ) (hk : kd = 1 ∨ kd = 4) (ht : zSh[j]? = some (kd, m1)) (ht' : zSh[j']? = some (kd, m2)) (h1 : 0 ≤ sp) (h2 : 0 ≤ dp) (h3 : sp + n ≤ m2) : zMok (zcp μ j' sp j dp n) := by
  intro a t i g1 g2 g3 g4
  by_cases e : a = j
  · subst e
    rw [ht] at g1; cases g1
    rw [zcp_at]
    split
    · rename_i e2
      have hk0 : ¬ kd = 0 := by omega
      have := h j' (kd, m2) (i - dp + sp) ht' (by omega) (fun e => absurd e hk0) (fun _ => by show i - dp + sp < (m2 : Int); omega)
      rcases hk with rfl | rfl <;> exact this
    · exact h _ _ _ ht g2 g3 g4
  · rw [zcp_off _ e]
    exact h _ _ _ g1 g2 g3 g4
def zPa (own i : Nat) : Prop := Cond.methodLink (zOwn.getD own "") i arraycopyName ∈ zTb ∧ Cond.native arraycopyName ∈ zTb ∧ Cond.static arraycopyName ∈ zTb ∧ Cond.initialized "java/lang/System" ∈ zTb
theorem zs_copy {i j j' kd m1 m2 : Nat} {sp dp n : Int} (hkd : kd = 1 ∨ kd = 4) (hd : decode M.2.1 pc = .ok (.invokestatic i, 3)) (hp : zPa M.2.2.2.2.1 i) (hc : zcats st ≤ 8) (hd0 : 0 < d) (hne : ¬ j = j') (hb : 0 ≤ sp ∧ 0 ≤ dp ∧ 0 ≤ n ∧ sp + n ≤ m2 ∧ dp + n ≤ m1)
    (h : zTm g d M K (pc + 3) lv st (zcp μ j' sp j dp n)) : zTm g d M K pc lv (.inl n :: .inl dp :: .inr (.inr ((kd, m1), j)) :: .inl sp :: .inr (.inr ((kd, m2), j')) :: st) μ := by
  intro p e R s m args below meth c H locs cells slots Q ls C hl hs hv hr hS hret
  obtain ⟨p1, p2, p3, p4⟩ := hp
  have hw := C.2.2.2.2.1
  have hfr : d ≤ R.frames := C.2.2.2.2.2.2.1
  have hlo : 64 * d ≤ R.locals := C.2.2.2.2.2.2.2.1
  have hn : zI32 n := zokh hs
  have hdp : zI32 dp := zokh2 hs
  have hsp : zI32 sp := zokh2 (zokt (zokt hs))
  have h6 : ¬ kd = 6 := by omega
  have r1 : zSh[j]? = some (kd, m1) := by
    rcases zokh3 hs with h1 | h1 | h1
    · exact h1
    · have := congrArg (fun q => q.1.1) h1; exact absurd this h6
    · have := congrArg (fun q => q.1.1) h1; exact absurd this h6
  have r2 : zSh[j']? = some (kd, m2) := by
    rcases zokh3 (zokt (zokt hs)) with h1 | h1 | h1
    · exact h1
    · have := congrArg (fun q => q.1.1) h1; exact absurd this h6
    · have := congrArg (fun q => q.1.1) h1; exact absurd this h6
  have neg : ∀ {z : Int}, zI32 z → 0 ≤ z → ¬ Int32.ofInt z < 0 := fun hz h0 q => by
    have := (zof_lt hz zI32_0).mp q
    omega
  have hf5 : nativeFrameWords "java/lang/System" "arraycopy" 5 = 7 := by decide +kernel
  have fin : ∀ (H1 : Heap) (locs1 : List Loc), va_P (zD g) vwCl ((zW g μ).set j (zad g j, zE g j (kd, m1) (zcp μ j' sp j dp n j))) H1 → va_S (zA g) s.heap H1 locs1 → W p g.1 e R s m args below meth c H1 locs1 cells slots Q (F0 m (pc + 3) ls (st.map (zR g))) := by
    intro H1 locs1 hP hS1
    have hP := (zW_upd (g := g) (μ := μ) r1 (fun a ha => zcp_off (j' := j') (sp := sp) (dp := dp) (n := n) a ha)) ▸ hP
    exact h p e R s m args below meth c H1 locs1 cells slots Q ls C hl (zokt (zokt (zokt (zokt (zokt hs))))) hv ⟨hP, zMok_cp hr.2 hkd r1 r2 hb.1 hb.2.1 hb.2.2.2.1⟩ hS1 hret
  have hfun : ∀ {α : Type} (f : Int → α), (fun a : Nat => f (zcp μ j' sp j dp n j a)) = va_cpy (fun a : Nat => f (μ j' a)) (fun a : Nat => f (μ j a)) (Int32.ofInt sp).toNatClampNeg (Int32.ofInt dp).toNatClampNeg (Int32.ofInt n).toNatClampNeg := by
    intro α f
    funext a
    unfold va_cpy
    rw [zcp_at, zof_toN hsp, zof_toN hdp, zof_toN hn]
    by_cases e1 : dp ≤ a ∧ (a : Int) < dp + n
    · rw [if_pos e1, if_pos (by omega)]
      congr 2
      omega
    · rw [if_neg e1, if_neg (by omega)]
  rcases hkd with rfl | rfl
  · refine va_copyi (D := zD g) (a := zad g j) (a0 := zad g j') (f := fun a => Int32.ofInt (μ j' a)) (g := fun a => Int32.ofInt (μ j a)) (sp := Int32.ofInt sp) (dp := Int32.ofInt dp) (n := Int32.ofInt n) C.1 C.2.1 (C.2.2.1.trans hl.1.symm) C.2.2.2.1 (hw _ p1) (hw _ p2) (hw _ p3) (hw _ p4) C.2.2.2.2.2.1.1 hr.1 (zW_D C.2.2.2.2.2.1.2.1 μ) hS j' j 0 0 (zW_get r2) (zW_get r1) (ty := .int) rfl rfl rfl
      (neg hsp hb.1) (neg hdp hb.2.1) (neg hn hb.2.2.1) (by rw [zof_toN hsp, zof_toN hn]; omega) (by rw [zof_toN hdp, zof_toN hn]; omega) (fun _ _ => rfl) (by omega) (by rw [zcats_eq, hf5]; omega) hd (fun H1 locs1 hP hD hS1 => fin H1 locs1 ?_ hS1)
    rw [← hfun Int32.ofInt] at hP
    exact hP
  · refine va_copyl (D := zD g) (a := zad g j) (a0 := zad g j') (f := fun a => Int64.ofInt (μ j' a)) (g := fun a => Int64.ofInt (μ j a)) (sp := Int32.ofInt sp) (dp := Int32.ofInt dp) (n := Int32.ofInt n) C.1 C.2.1 (C.2.2.1.trans hl.1.symm) C.2.2.2.1 (hw _ p1) (hw _ p2) (hw _ p3) (hw _ p4) C.2.2.2.2.2.1.1 hr.1 (zW_D C.2.2.2.2.2.1.2.1 μ) hS j' j 3 3 (zW_get r2) (zW_get r1) (ty := .long) rfl rfl rfl
      (neg hsp hb.1) (neg hdp hb.2.1) (neg hn hb.2.2.1) (by rw [zof_toN hsp, zof_toN hn]; omega) (by rw [zof_toN hdp, zof_toN hn]; omega) (fun _ _ => rfl) (by omega) (by rw [zcats_eq, hf5]; omega) hd (fun H1 locs1 hP hD hS1 => fin H1 locs1 ?_ hS1)
    rw [← hfun Int64.ofInt] at hP
    exact hP
end ZF
