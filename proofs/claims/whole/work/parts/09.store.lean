/-! stores, fields -/
section ZD
variable {g : zG} {d : Nat} {M : zMeth} {K : Option zV → zM → Prop} {pc : Nat} {lv : zL} {st : List zV} {μ : zM} {x y : Int}
theorem zupd_i {j : Nat} {i : Int} (hi : zI32 i) (h0 : 0 ≤ i) : (fun a : Nat => Int32.ofInt (zU μ j i x j a)) = upd (fun a : Nat => Int32.ofInt (μ j a)) (Int32.ofInt i).toNatClampNeg (Int32.ofInt x) := by
  funext a
  unfold upd
  rw [zU_at, zof_toN hi]
  by_cases e : a = i.toNat
  · rw [if_pos e, if_pos (by omega)]
  · rw [if_neg e, if_neg (by omega)]
theorem zupd_l {j : Nat} {i : Int} (hi : zI32 i) (h0 : 0 ≤ i) : (fun a : Nat => Int64.ofInt (zU μ j i x j a)) = vp_updL (fun a : Nat => Int64.ofInt (μ j a)) (Int32.ofInt i).toNatClampNeg (Int64.ofInt x) := by
  funext a
  unfold vp_updL
  rw [zU_at, zof_toN hi]
  by_cases e : a = i.toNat
  · rw [if_pos e, if_pos (by omega)]
  · rw [if_neg e, if_neg (by omega)]
theorem zokh3 {u v w : zV} (hs : ∀ z ∈ u :: v :: w :: st, zok z) : zok w := hs _ (List.mem_cons_of_mem _ (List.mem_cons_of_mem _ List.mem_cons_self))
theorem zs_iastore {i : Int} {n j : Nat} (hd : decode M.2.1 pc = .ok (.iastore, 1)) (hi : 0 ≤ i ∧ i < n) (h : zTm g d M K (pc + 1) lv st (zU μ j i x)) : zTm g d M K pc lv (.inl x :: .inl i :: .inr (.inr ((1, n), j)) :: st) μ := by
  intro p e R s m args below meth c H locs cells slots Q ls C hl hs hv hr hS hret
  rcases zokh3 hs with h1 | h1 | h1
  · refine va_iast (D := zD g) (a := zad g j) (f := fun a => Int32.ofInt (μ j a)) (i := Int32.ofInt i) (x := Int32.ofInt x) C.1 C.2.1 C.2.2.2.2.2.1.1 hr.1 (zW_D C.2.2.2.2.2.1.2.1 μ) hS j 0 (zW_get h1) rfl (zvp_in (zokh2 hs) hi) hd (fun H1 locs1 hP hD hS1 => ?_)
    rw [← zupd_i (zokh2 hs) hi.1] at hP
    have hP := (zW_upd (g := g) (μ := μ) h1 (fun a ha => zU_off (i := i) (v := x) a ha)) ▸ hP
    exact h p e R s m args below meth c H1 locs1 cells slots Q ls C hl (zokt (zokt (zokt hs))) hv ⟨hP, zMok_U hr.2 h1 (zokh hs)⟩ hS1 hret
  · cases h1
  · cases h1
theorem znar_z {x : Int} (h : x = 0 ∨ x = 1) : vp_nar .boolean (Int32.ofInt x) = Int32.ofInt x := by
  rcases h with rfl | rfl <;> rfl
theorem znar_b {x : Int} (h : -128 ≤ x ∧ x ≤ 127) : vp_nar .byte (Int32.ofInt x) = Int32.ofInt x := by
  show (Int32.ofInt x).toInt8.toInt32 = Int32.ofInt x
  have e1 : (Int32.ofInt x).toInt = x := zto_of (by unfold zI32; omega)
  have e2 : (Int32.ofInt x).toInt8 = Int8.ofInt x := by rw [← Int8.ofInt_int32ToInt, e1]
  rw [e2, zof_8 h]
theorem zs_bastore2 {i : Int} {n j : Nat} (hd : decode M.2.1 pc = .ok (.bastore, 1)) (hi : 0 ≤ i ∧ i < n) (hx : x = 0 ∨ x = 1) (h : zTm g d M K (pc + 1) lv st (zU μ j i x)) : zTm g d M K pc lv (.inl x :: .inl i :: .inr (.inr ((2, n), j)) :: st) μ := by
  intro p e R s m args below meth c H locs cells slots Q ls C hl hs hv hr hS hret
  rcases zokh3 hs with h1 | h1 | h1
  · refine va_zast (D := zD g) (a := zad g j) (f := fun a => Int32.ofInt (μ j a)) (i := Int32.ofInt i) (x := Int32.ofInt x) C.1 C.2.1 C.2.2.2.2.2.1.1 hr.1 (zW_D C.2.2.2.2.2.1.2.1 μ) hS j 1 (zW_get h1) rfl (zvp_in (zokh2 hs) hi) hd (fun H1 locs1 hP hD hS1 => ?_)
    rw [znar_z hx, ← zupd_i (zokh2 hs) hi.1] at hP
    have hP := (zW_upd (g := g) (μ := μ) h1 (fun a ha => zU_off (i := i) (v := x) a ha)) ▸ hP
    exact h p e R s m args below meth c H1 locs1 cells slots Q ls C hl (zokt (zokt (zokt hs))) hv ⟨hP, zMok_U hr.2 h1 hx⟩ hS1 hret
  · cases h1
  · cases h1
theorem zs_bastore3 {i : Int} {n j : Nat} (hd : decode M.2.1 pc = .ok (.bastore, 1)) (hi : 0 ≤ i ∧ i < n) (hx : -128 ≤ x ∧ x ≤ 127) (h : zTm g d M K (pc + 1) lv st (zU μ j i x)) : zTm g d M K pc lv (.inl x :: .inl i :: .inr (.inr ((3, n), j)) :: st) μ := by
  intro p e R s m args below meth c H locs cells slots Q ls C hl hs hv hr hS hret
  rcases zokh3 hs with h1 | h1 | h1
  · refine va_bast (D := zD g) (a := zad g j) (f := fun a => Int32.ofInt (μ j a)) (i := Int32.ofInt i) (x := Int32.ofInt x) C.1 C.2.1 C.2.2.2.2.2.1.1 hr.1 (zW_D C.2.2.2.2.2.1.2.1 μ) hS j 2 (zW_get h1) rfl (zvp_in (zokh2 hs) hi) hd (fun H1 locs1 hP hD hS1 => ?_)
    rw [znar_b hx, ← zupd_i (zokh2 hs) hi.1] at hP
    have hP := (zW_upd (g := g) (μ := μ) h1 (fun a ha => zU_off (i := i) (v := x) a ha)) ▸ hP
    exact h p e R s m args below meth c H1 locs1 cells slots Q ls C hl (zokt (zokt (zokt hs))) hv ⟨hP, zMok_U hr.2 h1 hx⟩ hS1 hret
  · cases h1
  · cases h1
theorem zs_lastore {i : Int} {n j : Nat} (hd : decode M.2.1 pc = .ok (.lastore, 1)) (hi : 0 ≤ i ∧ i < n) (h : zTm g d M K (pc + 1) lv st (zU μ j i x)) : zTm g d M K pc lv (.inr (.inl x) :: .inl i :: .inr (.inr ((4, n), j)) :: st) μ := by
  intro p e R s m args below meth c H locs cells slots Q ls C hl hs hv hr hS hret
  rcases zokh3 hs with h1 | h1 | h1
  · refine va_last (D := zD g) (a := zad g j) (f := fun a => Int64.ofInt (μ j a)) (i := Int32.ofInt i) (x := Int64.ofInt x) C.1 C.2.1 C.2.2.2.2.2.1.1 hr.1 (zW_D C.2.2.2.2.2.1.2.1 μ) hS j 3 (zW_get h1) rfl (zvp_in (zokh2 hs) hi) hd (fun H1 locs1 hP hD hS1 => ?_)
    rw [← zupd_l (zokh2 hs) hi.1] at hP
    have hP := (zW_upd (g := g) (μ := μ) h1 (fun a ha => zU_off (i := i) (v := x) a ha)) ▸ hP
    exact h p e R s m args below meth c H1 locs1 cells slots Q ls C hl (zokt (zokt (zokt hs))) hv ⟨hP, zMok_U hr.2 h1 (zokh hs)⟩ hS1 hret
  · cases h1
  · cases h1
theorem zlen_ok {j : Nat} {t : zT0} (h : zSh[j]? = some t) : t.2 < 100000 := by
  have key : (List.range 177).all (fun j => decide (((zSh[j]?).getD (0, 0)).2 < 100000)) = true := by decide +kernel
  have := List.all_eq_true.mp key j (List.mem_range.mpr (zSh_lt h))
  rw [h] at this
  exact of_decide_eq_true this
theorem zofN (n : Nat) : Int32.ofNat n = Int32.ofInt n := Int32.toInt_inj.1 (by simp)
theorem zs_alen1 {n j : Nat} (hd : decode M.2.1 pc = .ok (.arraylength, 1)) (h : zTm g d M K (pc + 1) lv (.inl n :: st) μ) : zTm g d M K pc lv (.inr (.inr ((1, n), j)) :: st) μ := by
  refine h.keep (fun hs _ hm => zok1 hs ?_) ?_
  · rcases zokh hs with h1 | h1 | h1
    · have := zlen_ok h1
      show zI32 n
      have this : n < 100000 := this
      unfold zI32; omega
    · cases h1
    · cases h1
  intro p e R s m args below meth c H locs cells slots Q ls C hl hs hr hS k
  rcases zokh hs with h1 | h1 | h1
  · exact va_alen (D := zD g) (a := zad g j) (v := Int32.ofInt n) C.1 C.2.1 C.2.2.2.2.2.1.1 hr.1 j 0 (zW_get h1) (ty := .int) rfl (zofN n) hd k
  · cases h1
  · cases h1
theorem zs_alen4 {n j : Nat} (hd : decode M.2.1 pc = .ok (.arraylength, 1)) (h : zTm g d M K (pc + 1) lv (.inl n :: st) μ) : zTm g d M K pc lv (.inr (.inr ((4, n), j)) :: st) μ := by
  refine h.keep (fun hs _ hm => zok1 hs ?_) ?_
  · rcases zokh hs with h1 | h1 | h1
    · have := zlen_ok h1
      show zI32 n
      have this : n < 100000 := this
      unfold zI32; omega
    · cases h1
    · cases h1
  intro p e R s m args below meth c H locs cells slots Q ls C hl hs hr hS k
  rcases zokh hs with h1 | h1 | h1
  · exact va_alen (D := zD g) (a := zad g j) (v := Int32.ofInt n) C.1 C.2.1 C.2.2.2.2.2.1.1 hr.1 j 3 (zW_get h1) (ty := .long) rfl (zofN n) hd k
  · cases h1
  · cases h1
-- a field of my table on the machine
/-- what the tables say of a field's place in a pool -/
def zPf (own idx b c k : Nat) : Prop := ∃ (C : String) (T : u_T) (N : Nat), vwCl[c]? = some (C, T, N) ∧ k < N ∧ (zFl.getD c []).length = N ∧
  ((b = 0 ∧ Cond.fieldLink (zOwn.getD own "") idx (T k).1 (T k).2.1 (T k).2.2.1 ∈ zTb) ∨ (b = 1 ∧ Cond.fieldLinkNest (zOwn.getD own "") idx (T k).1 (T k).2.1 (T k).2.2.1 "EnginesAsleep" ∈ zNw)) ∧
  (zfi c k = some (.inl 0) → parseFieldDescriptor (T k).2.2.1 = some .int ∧ (T k).2.2.2 = false) ∧ (zfi c k = some (.inl 1) → parseFieldDescriptor (T k).2.2.1 = some .boolean ∧ (T k).2.2.2 = false) ∧
  (∀ l, zfi c k = some (.inr (.inr l)) → (parseFieldDescriptor (T k).2.2.1 = some (.array .int) ∨ parseFieldDescriptor (T k).2.2.1 = some (.array .byte)) ∧ (T k).2.2.2 = false) ∧ ∀ n, zfi c k = some (.inl n) → n < 2
/-- what they say of a class -/
def zCf : Prop := ∀ (c : Nat) (C : String) (T : u_T) (N : Nat), vwCl[c]? = some (C, T, N) → (∀ w ∈ u_ws C T N, w ∈ zTb) ∧ (∀ a, a < N → ∀ b, b < N → a ≠ b → (T a).2.1 ≠ (T b).2.1) ∧ ∃ ty0 : Nat → FieldType, ∀ k, k < N → parseFieldDescriptor (T k).2.2.1 = some (ty0 k)
theorem zs_getfield {i b c k j : Nat} {fi : zFI} {v : zV} (cf : zCf) (hd : decode M.2.1 pc = .ok (.getfield i, 3)) (hp : zPf M.2.2.2.2.1 i b c k) (hfi : zfi c k = some fi) (hv : zR g v = zFv g j (μ j) k fi) (hok : zMok μ → zSh[j]? = some (0, c) → zok v)
    (h : zTm g d M K (pc + 3) lv (v :: st) μ) : zTm g d M K pc lv (.inr (.inr ((0, c), j)) :: st) μ := by
  refine h.keep (fun hs _ hm => zok1 hs ?_) ?_
  · rcases zokh hs with h1 | h1 | h1
    · exact hok hm h1
    · cases h1
    · cases h1
  intro p e R s m args below meth cc H locs cells slots Q ls C hl hs hr hS kk
  obtain ⟨CN, T, N, hc, hk, hlen, hlink, -⟩ := hp
  rcases zokh hs with h1 | h1 | h1
  · have he : (zW g μ)[j]? = some (zad g j, .inr (c, zFs g j (μ j) 0 (zFl.getD c []))) := zW_get h1
    have hfs : (zFs g j (μ j) 0 (zFl.getD c []))[k]? = some (zR g v) := by
      rw [zFs_get, ← zfi_eq, hfi, Nat.zero_add, hv]; rfl
    rcases hlink with ⟨-, hlink⟩ | ⟨-, hlink⟩
    · exact va_get (D := zD g) (ci := c) (v := zR g v) (C := CN) (T := T) (N := N) (ref := (T k).1) C.1 C.2.1 C.2.2.2.2.1 (cf c CN T N hc).1 C.2.2.2.1 C.2.2.2.2.2.1.1 hr.1 j he hc k hk (C.2.2.2.2.1 _ hlink) (fun _ h9 => h9) hfs hd kk
    · exact va_getN (D := zD g) (ci := c) (v := zR g v) (C := CN) (T := T) (N := N) (ref := (T k).1) C.1 C.2.1 C.2.2.2.2.1 (cf c CN T N hc).1 C.2.2.2.1 C.2.2.2.2.2.1.1 hr.1 j he hc k hk (va_Nw.use rfl (C.2.2.2.2.2.1.2.2.2.2.2.1 _ hlink)) (fun _ h9 => h9) hfs hd kk
  · cases h1
  · cases h1
theorem zFs_upd {j k : Nat} {m m' : Int → Int} {V : Value} : ∀ (l : List zFI) (k0 : Nat), (∀ (i : Nat) (fi : zFI), l[i]? = some fi → zFv g j m' (k0 + i) fi = if k0 + i = k then V else zFv g j m (k0 + i) fi) → k0 ≤ k → zFs g j m' k0 l = (zFs g j m k0 l).set (k - k0) V
  | [], k0, h, hk => by simp [zFs]
  | f :: l, k0, h, hk => by
    have h0 := h 0 f rfl
    rw [Nat.add_zero] at h0
    by_cases e : k0 = k
    · subst e
      rw [if_pos rfl] at h0
      simp only [zFs, Nat.sub_self, List.set_cons_zero, h0]
      congr 1
      apply List.ext_getElem?
      intro a
      rw [zFs_get, zFs_get]
      cases ha : l[a]? with
      | none => rfl
      | some fi =>
        have := h (a + 1) fi ha
        rw [if_neg (by omega)] at this
        rw [show k0 + 1 + a = k0 + (a + 1) from by omega]
        simp only [Option.map_some, this]
    · rw [if_neg e] at h0
      have ih := zFs_upd l (k0 + 1) (fun i fi hi => by
        have := h (i + 1) fi hi
        rw [show k0 + 1 + i = k0 + (i + 1) from by omega]
        exact this) (by omega)
      simp only [zFs, h0, ih]
      rw [show k - k0 = (k - (k0 + 1)) + 1 from by omega, List.set_cons_succ]
theorem zs_putfield {i b c k j : Nat} {fi : zFI} {f : Int} {v : zV} {ty : FieldType} (cf : zCf) (hf : f = (k : Int)) (hd : decode M.2.1 pc = .ok (.putfield i, 3)) (hp : zPf M.2.2.2.2.1 i b c k) (hfi : zfi c k = some fi)
    (hv : ∀ m' : Int → Int, m' k = x → zFv g j m' k fi = zR g v) (hfit : zok v → zfit (0, c) f x)
    (hty : ∀ (C : String) (T : u_T) (N : Nat), vwCl[c]? = some (C, T, N) → zPf M.2.2.2.2.1 i b c k → parseFieldDescriptor (T k).2.2.1 = some ty ∧ (T k).2.2.2 = false) (hn : narrow ty (zR g v) = zR g v) (hft : fits ty (zR g v) = true)
    (h : zTm g d M K (pc + 3) lv st (zU μ j f x)) : zTm g d M K pc lv (v :: .inr (.inr ((0, c), j)) :: st) μ := by
  intro p e R s m args below meth cc H locs cells slots Q ls C hl hs hvv hr hS hret
  have hp0 := hp
  obtain ⟨CN, T, N, hc, hk, hlen, hlink, -⟩ := hp
  obtain ⟨hty, hfin⟩ := hty CN T N hc hp0
  obtain ⟨c1, c2, ty0, c3⟩ := cf c CN T N hc
  rcases zokh2 hs with h1 | h1 | h1
  · have he : (zW g μ)[j]? = some (zad g j, .inr (c, zFs g j (μ j) 0 (zFl.getD c []))) := zW_get h1
    have hkl : k < (zFs g j (μ j) 0 (zFl.getD c [])).length := by rw [zFs_len, hlen]; exact hk
    have hfs : zFs g j (zU μ j f x j) 0 (zFl.getD c []) = (zFs g j (μ j) 0 (zFl.getD c [])).set k (zR g v) := by
      have := zFs_upd (g := g) (j := j) (k := k) (m := μ j) (m' := zU μ j f x j) (V := zR g v) (zFl.getD c []) 0 (fun a fa ha => by
        rw [Nat.zero_add]
        by_cases e1 : a = k
        · subst e1
          rw [if_pos rfl]
          rw [← zfi_eq, hfi] at ha
          cases ha
          exact hv _ (by rw [zU_at, if_pos hf.symm])
        · rw [if_neg e1]
          have e2 : zU μ j f x j (a : Int) = μ j (a : Int) := by rw [zU_at, if_neg (by omega)]
          rcases fa with fa | ⟨t, fa | fa⟩ | fa <;> simp only [zFv, e2]) (Nat.zero_le _)
      rw [Nat.sub_zero] at this
      exact this
    have fin : ∀ (H1 : Heap) (locs1 : List Loc), va_P (zD g) vwCl ((zW g μ).set j (zad g j, .inr (c, (zFs g j (μ j) 0 (zFl.getD c [])).set k (zR g v)))) H1 → va_D (zA g) ((zW g μ).set j (zad g j, .inr (c, (zFs g j (μ j) 0 (zFl.getD c [])).set k (zR g v)))) → va_S (zA g) s.heap H1 locs1 → W p g.1 e R s m args below meth cc H1 locs1 cells slots Q (F0 m (pc + 3) ls (st.map (zR g))) := by
      intro H1 locs1 hP hD hS1
      rw [← hfs] at hP
      have hP := (zW_upd (g := g) (μ := μ) h1 (fun a ha => zU_off (i := f) (v := x) a ha)) ▸ hP
      exact h p e R s m args below meth cc H1 locs1 cells slots Q ls C hl (zokt (zokt hs)) hvv ⟨hP, zMok_U hr.2 h1 (hfit (zokh hs))⟩ hS1 hret
    rcases hlink with ⟨-, hlink⟩ | ⟨-, hlink⟩
    · exact va_put (D := zD g) (ci := c) (v := zR g v) (ty := ty) (C := CN) (T := T) (N := N) (ref := (T k).1) C.1 C.2.1 C.2.2.2.2.1 c1 ty0 c3 c2 C.2.2.2.1 C.2.2.2.2.2.1.1 hr.1 (zW_D C.2.2.2.2.2.1.2.1 μ) hS j he hc k hk (C.2.2.2.2.1 _ hlink) (fun _ h9 => h9) hfin hty hn hft hkl hd fin
    · exact va_putN (D := zD g) (ci := c) (v := zR g v) (ty := ty) (C := CN) (T := T) (N := N) (ref := (T k).1) C.1 C.2.1 C.2.2.2.2.1 c1 ty0 c3 c2 C.2.2.2.1 C.2.2.2.2.2.1.1 hr.1 (zW_D C.2.2.2.2.2.1.2.1 μ) hS j he hc k hk (va_Nw.use rfl (C.2.2.2.2.2.1.2.2.2.2.2.1 _ hlink)) (fun _ h9 => h9) hfin hty hn hft hkl hd fin
  · cases h1
  · cases h1
end ZD
