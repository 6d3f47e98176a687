-- needs at
/-! the law's own of and row: what is thrown is caught there -/
def mLof : zMeth := (yL_of, cL_of, 5, some .int, 13, [])
def mLrow : zMeth := (yL_row, cL_row, 4, some .int, 13, [])
def hLof : List (Nat × Nat × Nat × Nat) := [(0, 10, 13, 13)]
def hLrow : List (Nat × Nat × Nat × Nat) := [(0, 9, 12, 13)]
def zLk (ok : Prop) (v : Int) (μ : zM) (r : Option zV) (μ' : zM) : Prop := (ok ∧ r = some (.inl 0) ∧ μ' = zU μ 176 0 v) ∨ (¬ ok ∧ r = some (.inl 1) ∧ μ' = μ)
def zLw (M : zMeth) (hh : List (Nat × Nat × Nat × Nat)) : List Cond := Cond.codeWith M.1 M.2.1 M.2.2.1 M.2.2.2.1 hh :: zTb
def zLM (g : zG) (d : Nat) (M : zMeth) (hh : List (Nat × Nat × Nat × Nat)) (av : List zV) (μ : zM) (K : Option zV → zM → Prop) : Prop := Met g.1 M.1 (zLw M hh) (zrx d) (zPx g av μ) (zQc g K) 1 6 (zA g)
theorem zLc13 : Cond.classLink RL 13 zNse ∈ zTb := List.mem_filter.mpr ⟨by decide +kernel, by decide +kernel⟩
section
variable {g : zG} {d : Nat} {μ : zM} {nn e k x : Int} {S : zS}
theorem zL_of (hl : g.1.stackTraces = false) (hd : 20 ≤ d) (hC : cS μ S) (hI : iS nn S) : zLM g d mLof hLof [.inr (.inr ((0, 11), 0)), .inl e, .inl k, .inr (.inr ((4, 1), 176))] μ (zLk (of_ok S e k) (of_v S e k) μ) := by
  refine va_MetW (cc := cL_of) (maxL := 5) (ret := some .int) (hh := hLof) (by decide +kernel) rfl ?_
  intro p e9 s m args below meth c s₁ B hml hv
  obtain ⟨⟨rfl, hoks, hrel, hst⟩, hxs⟩ := hv
  have he32 : zI32 e := hoks _ (List.mem_cons_of_mem _ List.mem_cons_self)
  have hk32 : zI32 k := hoks _ (List.mem_cons_of_mem _ (List.mem_cons_of_mem _ List.mem_cons_self))
  have hts := atoms_spec (ws := zLw mLof hLof) B.pre
  have hown : s.vm.findClass RL = some m.cls := findClass_of_methodNamed B.named
  have hrt := B.returns
  have hex := B.exec
  have hb := B.bytes
  have ht : c.exceptionTable.toList = tableOf hLof := vx_table (x := yL_of) B (hts _ List.mem_cons_self)
  have hlv := lv_entry ([.ref (zad g 0), .int (Int32.ofInt e), .int (Int32.ofInt k), .ref (zad g 176)] : List Value) (n := 5) (Nat.le_of_ble_eq_true rfl)
  show W p g.1 e9 (zrx d) s m _ below meth c s.heap [] 0 0 _ (entryFrame m ([.ref (zad g 0), .int (Int32.ofInt e), .int (Int32.ofInt k), .ref (zad g 176)] : List Value).toArray 5)
  rw [lg_entry_eq]
  generalize (lg_sl ([.ref (zad g 0), .int (Int32.ofInt e), .int (Int32.ofInt k), .ref (zad g 176)] : List Value) ++ List.replicate (5 - (lg_sl ([.ref (zad g 0), .int (Int32.ofInt e), .int (Int32.ofInt k), .ref (zad g 176)] : List Value)).length) Slot.unset).toArray = ls at hlv ⊢
  have hlv : lv_has ls 5 [(0, .ref (zad g 0)), (1, .int (Int32.ofInt e)), (2, .int (Int32.ofInt k)), (3, .ref (zad g 176))] := hlv
  have C : zCx g d mLof p (zrx d) s m (([.inr (.inr ((0, 11), 0)), .inl e, .inl k, .inr (.inr ((4, 1), 176))] : List zV).map (zR g)).toArray c 0 0 := ⟨hex, hb, hml, hown, fun w hw => hts w (List.mem_cons_of_mem _ hw), hst, Nat.le_refl _, Nat.le_refl _, Nat.zero_le _, Nat.zero_le _⟩
  have hasok : ∀ v ∈ ([.inl e, .inl k] : List zV), zok v := fun v hv => by
    rcases List.mem_cons.mp hv with rfl | h9
    · exact he32
    · rcases List.mem_cons.mp h9 with rfl | h9
      · exact hk32
      · cases h9
  refine lv_aload_n C.1 C.2.1 (show decode mLof.2.1 0 = .ok (.aload_n 3, 1) by decide +kernel) rfl (lv_at hlv 3 rfl) ?_
  refine lv_iconst (v := Int32.ofInt 0) C.1 C.2.1 (show decode mLof.2.1 1 = .ok (.iconst 0, 1) by decide +kernel) rfl ?_
  refine lv_aload_n C.1 C.2.1 (show decode mLof.2.1 2 = .ok (.aload_n 0, 1) by decide +kernel) rfl (lv_at hlv 0 rfl) ?_
  refine lv_iload_n C.1 C.2.1 (show decode mLof.2.1 3 = .ok (.iload_n 1, 1) by decide +kernel) rfl (lv_at hlv 1 rfl) ?_
  refine lv_iload_n C.1 C.2.1 (show decode mLof.2.1 4 = .ok (.iload_n 2, 1) by decide +kernel) rfl (lv_at hlv 2 rfl) ?_
  by_cases ok : of_ok S e k
  · refine zw_callV (id := 121) (n := 2) (cI := 11) (j := 0) (as := [.inl e, .inl k]) (rest := [.int (Int32.ofInt 0), .ref (zad g 176)]) (K := fun v μ' => v = some (.inl (of_v S e k)) ∧ μ' = μ) C hlv.1 rfl (show decode mLof.2.1 5 = .ok (.invokevirtual 7, 3) by decide +kernel) zl_7 rfl hasok rfl (Nat.le_of_ble_eq_true rfl) (by omega) hrel va_S.rf (C_of (by omega) hC hI ok ⟨rfl, rfl⟩) (fun v μ' H' locs' hr' hS' hok' hK => ?_)
    obtain ⟨rfl, rfl⟩ := hK
    have hv32 : zI32 (of_v S e k) := hok' _ rfl
    refine lv_i2l (x := Int32.ofInt (of_v S e k)) (v := Int64.ofInt (of_v S e k)) C.1 C.2.1 (show decode mLof.2.1 8 = .ok (.i2l, 1) by decide +kernel) (by rw [← Int64.ofInt_int32ToInt, zto_of hv32]) ?_
    refine zw_last (j := 176) (n := 1) (i := 0) (x := of_v S e k) C hr' hS' rfl (by omega) zI32_0 (zI64_32 hv32) (show decode mLof.2.1 9 = .ok (.lastore, 1) by decide +kernel) (fun H2 locs2 hr2 hS2 => ?_)
    refine lv_goto (tgt := 17) C.1 C.2.1 (show decode mLof.2.1 10 = .ok (.goto 7, 3) by decide +kernel) rfl ?_
    refine lv_iconst (v := Int32.ofInt 0) C.1 C.2.1 (show decode mLof.2.1 17 = .ok (.iconst 0, 1) by decide +kernel) rfl ?_
    refine W.widen (k := 1) (n := 6) (Nat.zero_le _) (Nat.zero_le _) ?_
    exact W.iret hex hb hrt (fun t ht hW => ⟨some (.inl 0), _, rfl, fun x hx => by cases hx; exact zI32_0, by rw [ht]; exact hr2, Or.inl ⟨ok, rfl, rfl⟩, by rw [ht]; exact hS2.1, by rw [ht]; exact hS2.2.1⟩) hS2.2.2 (show decode mLof.2.1 18 = .ok (.ireturn, 1) by decide +kernel)
  · refine zw_throwV (id := 121) (n := 2) (cI := 11) (j := 0) (as := [.inl e, .inl k]) (rest := [.int (Int32.ofInt 0), .ref (zad g 176)]) C hxs hlv.1 rfl (show decode mLof.2.1 5 = .ok (.invokevirtual 7, 3) by decide +kernel) zl_7 rfl hasok rfl (Nat.le_of_ble_eq_true rfl) (by omega) hrel va_S.rf ⟨Nat.le_refl _, Nat.le_refl _⟩ (zx_of hl (by omega) hC ok) (fun q9 ce H' locs' hr' hS' hce hcv hcl => ?_)
    refine zx_catch (own := RL) (name := zNse) (E := zNse) (x := ⟨0, 10, 13, 13⟩) hown ht (by decide) (by decide) (C.2.2.2.2.1 _ zLc13) (va_tabs (zAt_f _ zAt_c).2 rfl (hxs.2.2 _ zAt_c)) hce hcv hcl ?_
    refine lv_astore (nL := 5) C.1 C.2.1 (show decode mLof.2.1 13 = .ok (.astore 4, 2) by decide +kernel) hlv (by decide) rfl (fun ls2 hlv2 => ?_)
    refine lv_iconst (v := Int32.ofInt 1) C.1 C.2.1 (show decode mLof.2.1 15 = .ok (.iconst 1, 1) by decide +kernel) rfl ?_
    exact W.iret hex hb hrt (fun t ht hW => ⟨some (.inl 1), _, rfl, fun x hx => by cases hx; unfold zok zI32; omega, by rw [ht]; exact hr', Or.inr ⟨ok, rfl, rfl⟩, by rw [ht]; exact hS'.1, by rw [ht]; exact hS'.2.1⟩) hS'.2.2 (show decode mLof.2.1 16 = .ok (.ireturn, 1) by decide +kernel)
theorem zL_row (hl : g.1.stackTraces = false) (hd : 20 ≤ d) (hC : cS μ S) (hI : iS nn S) : zLM g d mLrow hLrow [.inr (.inr ((0, 11), 0)), .inl x, .inr (.inr ((4, 1), 176))] μ (zLk (row_ok S x) (row_v S x) μ) := by
  refine va_MetW (cc := cL_row) (maxL := 4) (ret := some .int) (hh := hLrow) (by decide +kernel) rfl ?_
  intro p e9 s m args below meth c s₁ B hml hv
  obtain ⟨⟨rfl, hoks, hrel, hst⟩, hxs⟩ := hv
  have hx32 : zI32 x := hoks _ (List.mem_cons_of_mem _ List.mem_cons_self)
  have hts := atoms_spec (ws := zLw mLrow hLrow) B.pre
  have hown : s.vm.findClass RL = some m.cls := findClass_of_methodNamed B.named
  have hrt := B.returns
  have hex := B.exec
  have hb := B.bytes
  have ht : c.exceptionTable.toList = tableOf hLrow := vx_table (x := yL_of) B (hts _ List.mem_cons_self)
  have hlv := lv_entry ([.ref (zad g 0), .int (Int32.ofInt x), .ref (zad g 176)] : List Value) (n := 4) (Nat.le_of_ble_eq_true rfl)
  show W p g.1 e9 (zrx d) s m _ below meth c s.heap [] 0 0 _ (entryFrame m ([.ref (zad g 0), .int (Int32.ofInt x), .ref (zad g 176)] : List Value).toArray 4)
  rw [lg_entry_eq]
  generalize (lg_sl ([.ref (zad g 0), .int (Int32.ofInt x), .ref (zad g 176)] : List Value) ++ List.replicate (4 - (lg_sl ([.ref (zad g 0), .int (Int32.ofInt x), .ref (zad g 176)] : List Value)).length) Slot.unset).toArray = ls at hlv ⊢
  have hlv : lv_has ls 4 [(0, .ref (zad g 0)), (1, .int (Int32.ofInt x)), (2, .ref (zad g 176))] := hlv
  have C : zCx g d mLrow p (zrx d) s m (([.inr (.inr ((0, 11), 0)), .inl x, .inr (.inr ((4, 1), 176))] : List zV).map (zR g)).toArray c 0 0 := ⟨hex, hb, hml, hown, fun w hw => hts w (List.mem_cons_of_mem _ hw), hst, Nat.le_refl _, Nat.le_refl _, Nat.zero_le _, Nat.zero_le _⟩
  have hasok : ∀ v ∈ ([.inl x] : List zV), zok v := fun v hv => by
    rcases List.mem_cons.mp hv with rfl | h9
    · exact hx32
    · cases h9
  refine lv_aload_n C.1 C.2.1 (show decode mLrow.2.1 0 = .ok (.aload_n 2, 1) by decide +kernel) rfl (lv_at hlv 2 rfl) ?_
  refine lv_iconst (v := Int32.ofInt 0) C.1 C.2.1 (show decode mLrow.2.1 1 = .ok (.iconst 0, 1) by decide +kernel) rfl ?_
  refine lv_aload_n C.1 C.2.1 (show decode mLrow.2.1 2 = .ok (.aload_n 0, 1) by decide +kernel) rfl (lv_at hlv 0 rfl) ?_
  refine lv_iload_n C.1 C.2.1 (show decode mLrow.2.1 3 = .ok (.iload_n 1, 1) by decide +kernel) rfl (lv_at hlv 1 rfl) ?_
  by_cases ok : row_ok S x
  · refine zw_callV (id := 159) (n := 1) (cI := 11) (j := 0) (as := [.inl x]) (rest := [.int (Int32.ofInt 0), .ref (zad g 176)]) (K := fun v μ' => v = some (.inl (row_v S x)) ∧ μ' = μ) C hlv.1 rfl (show decode mLrow.2.1 4 = .ok (.invokevirtual 15, 3) by decide +kernel) zl_15 rfl hasok rfl (Nat.le_of_ble_eq_true rfl) (by omega) hrel va_S.rf (C_row hC hI ok ⟨rfl, rfl⟩) (fun v μ' H' locs' hr' hS' hok' hK => ?_)
    obtain ⟨rfl, rfl⟩ := hK
    have hv32 : zI32 (row_v S x) := hok' _ rfl
    refine lv_i2l (x := Int32.ofInt (row_v S x)) (v := Int64.ofInt (row_v S x)) C.1 C.2.1 (show decode mLrow.2.1 7 = .ok (.i2l, 1) by decide +kernel) (by rw [← Int64.ofInt_int32ToInt, zto_of hv32]) ?_
    refine zw_last (j := 176) (n := 1) (i := 0) (x := row_v S x) C hr' hS' rfl (by omega) zI32_0 (zI64_32 hv32) (show decode mLrow.2.1 8 = .ok (.lastore, 1) by decide +kernel) (fun H2 locs2 hr2 hS2 => ?_)
    refine lv_goto (tgt := 15) C.1 C.2.1 (show decode mLrow.2.1 9 = .ok (.goto 6, 3) by decide +kernel) rfl ?_
    refine lv_iconst (v := Int32.ofInt 0) C.1 C.2.1 (show decode mLrow.2.1 15 = .ok (.iconst 0, 1) by decide +kernel) rfl ?_
    refine W.widen (k := 1) (n := 6) (Nat.zero_le _) (Nat.zero_le _) ?_
    exact W.iret hex hb hrt (fun t ht hW => ⟨some (.inl 0), _, rfl, fun x hx => by cases hx; exact zI32_0, by rw [ht]; exact hr2, Or.inl ⟨ok, rfl, rfl⟩, by rw [ht]; exact hS2.1, by rw [ht]; exact hS2.2.1⟩) hS2.2.2 (show decode mLrow.2.1 16 = .ok (.ireturn, 1) by decide +kernel)
  · refine zw_throwV (id := 159) (n := 1) (cI := 11) (j := 0) (as := [.inl x]) (rest := [.int (Int32.ofInt 0), .ref (zad g 176)]) C hxs hlv.1 rfl (show decode mLrow.2.1 4 = .ok (.invokevirtual 15, 3) by decide +kernel) zl_15 rfl hasok rfl (Nat.le_of_ble_eq_true rfl) (by omega) hrel va_S.rf ⟨Nat.le_refl _, Nat.le_refl _⟩ (zx_row hl (by omega) hC hI ok) (fun q9 ce H' locs' hr' hS' hce hcv hcl => ?_)
    refine zx_catch (own := RL) (name := zNse) (E := zNse) (x := ⟨0, 9, 12, 13⟩) hown ht (by decide) (by decide) (C.2.2.2.2.1 _ zLc13) (va_tabs (zAt_f _ zAt_c).2 rfl (hxs.2.2 _ zAt_c)) hce hcv hcl ?_
    refine lv_astore_n (nL := 4) C.1 C.2.1 (show decode mLrow.2.1 12 = .ok (.astore_n 3, 1) by decide +kernel) rfl hlv (by decide) rfl (fun ls2 hlv2 => ?_)
    refine lv_iconst (v := Int32.ofInt 1) C.1 C.2.1 (show decode mLrow.2.1 13 = .ok (.iconst 1, 1) by decide +kernel) rfl ?_
    exact W.iret hex hb hrt (fun t ht hW => ⟨some (.inl 1), _, rfl, fun x hx => by cases hx; unfold zok zI32; omega, by rw [ht]; exact hr', Or.inr ⟨ok, rfl, rfl⟩, by rw [ht]; exact hS'.1, by rw [ht]; exact hS'.2.1⟩) hS'.2.2 (show decode mLrow.2.1 14 = .ok (.ireturn, 1) by decide +kernel)
end
