-- needs at
/-! of, row of the class where they throw -/
theorem zM121 : zMt 121 = mX11_of := rfl
theorem zM159 : zMt 159 = mX11_row := rfl
section
variable {g : zG} {d : Nat} {μ : zM} {nn e k x : Int} {S : zS}
variable {p : Program} {e0 : Env} {R : Room} {s : State} {m : MethodId} {args : Array Value} {below : List Frame} {meth : Method} {cc : Code} {H : Heap} {locs : List Loc} {ls : Array Slot} {M : zMeth}
/-- the throw itself -/
theorem zw_throw {pc is : Nat} {text : String} {sa : Nat} (hl : g.1.stackTraces = false) (C : zCx g d M p (zrx d) s m args cc 0 0) (ho : M.2.2.2.2.1 = 11) (hx : zXs g s) (hd : 6 ≤ d) (hstr : vk_R RX11 is text sa s) (hr : zRel g μ H) (hS : va_S (zA g) s.heap H locs) (hls : ls.size = cc.maxLocals) (ht : ∀ x ∈ cc.exceptionTable.toList, False) (hlocks : meth.locks = false)
    (d0 : decode M.2.1 pc = .ok (.new 186, 3)) (d3 : decode M.2.1 (pc + 3) = .ok (.dup, 1)) (d4 : decode M.2.1 (pc + 4) = .ok (.ldc is, 2)) (d6 : decode M.2.1 (pc + 6) = .ok (.invokespecial 190, 3)) (d9 : decode M.2.1 (pc + 9) = .ok (.athrow, 1)) :
    W p g.1 e0 (zrx d) s m args below meth cc H locs 0 0 (vx_MQ below (fun _ _ _ _ => False) (zXc g μ) args s 1 6 (zA g)) (F0 m pc ls []) := by
  have hown : s.vm.findClass RX11 = some m.cls := by
    have := C.2.2.2.1
    rw [ho] at this
    exact this
  have hw := C.2.2.2.2.1
  refine zv_throwS (own := RX11) (text := text) (ik := 186) (is := is) (ic := 190) (sa := sa) (A := zA g) C.1 C.2.1 hl hown (hw _ zAt_k) (hw _ zAt_i) hstr ?_ zAt_o hx.1 hx.2.1 hS hls d0 d3 d4 d6 d9 (fun x hx => (ht x hx).elim) ?_ ?_ (Nat.le_refl _) (Nat.le_refl _) hlocks ?_ hS.2.2 (Nat.le_refl _) (Nat.le_refl _)
  · exact vx_hat (L := zAt) (B := zAt.filter (fun w => !goodWord w)) (fun w hw9 => hw w (zAt_g w hw9)) (fun w h9 => h9) (fun w h9 => va_tabs (zAt_f w h9).2 rfl (hx.2.2 w h9))
  · show 5 < d
    omega
  · show 0 + 82 ≤ 64 * d
    omega
  · intro t _ h1 h2
    exact ⟨rfl, zRel_kept hr h2, Nat.le_trans hS.1 h1, fun q h3 h4 => (h2 q (Nat.lt_of_lt_of_le h3 hS.1)).trans (hS.2.1 q h3 h4)⟩
theorem zw_throwW {pc is : Nat} {text : String} {sa : Nat} (hl : g.1.stackTraces = false) (C : zCx g d M p (zrx d) s m args cc 0 0) (ho : M.2.2.2.2.1 = 11) (hx : zXs g s) (hd : 6 ≤ d) (hstr : vk_R RX11 is text sa s) (hr : zRel g μ H) (hS : va_S (zA g) s.heap H locs) (hls : ls.size = cc.maxLocals) (ht : ∀ x ∈ cc.exceptionTable.toList, False) (hlocks : meth.locks = false)
    (d0 : decode M.2.1 pc = .ok (.new 186, 3)) (d3 : decode M.2.1 (pc + 3) = .ok (.dup, 1)) (d4 : decode M.2.1 (pc + 4) = .ok (.ldc_w is, 3)) (d6 : decode M.2.1 (pc + 7) = .ok (.invokespecial 190, 3)) (d9 : decode M.2.1 (pc + 10) = .ok (.athrow, 1)) :
    W p g.1 e0 (zrx d) s m args below meth cc H locs 0 0 (vx_MQ below (fun _ _ _ _ => False) (zXc g μ) args s 1 6 (zA g)) (F0 m pc ls []) := by
  have hown : s.vm.findClass RX11 = some m.cls := by
    have := C.2.2.2.1
    rw [ho] at this
    exact this
  have hw := C.2.2.2.2.1
  refine zv_throwSW (own := RX11) (text := text) (ik := 186) (is := is) (ic := 190) (sa := sa) (A := zA g) C.1 C.2.1 hl hown (hw _ zAt_k) (hw _ zAt_i) hstr ?_ zAt_o hx.1 hx.2.1 hS hls d0 d3 d4 d6 d9 (fun x hx => (ht x hx).elim) ?_ ?_ (Nat.le_refl _) (Nat.le_refl _) hlocks ?_ hS.2.2 (Nat.le_refl _) (Nat.le_refl _)
  · exact vx_hat (L := zAt) (B := zAt.filter (fun w => !goodWord w)) (fun w hw9 => hw w (zAt_g w hw9)) (fun w h9 => h9) (fun w h9 => va_tabs (zAt_f w h9).2 rfl (hx.2.2 w h9))
  · show 5 < d
    omega
  · show 0 + 82 ≤ 64 * d
    omega
  · intro t _ h1 h2
    exact ⟨rfl, zRel_kept hr h2, Nat.le_trans hS.1 h1, fun q h3 h4 => (h2 q (Nat.lt_of_lt_of_le h3 hS.1)).trans (hS.2.1 q h3 h4)⟩
theorem zx_of (hl : g.1.stackTraces = false) (hd : 10 ≤ d) (hC : cS μ S) (no : ¬ of_ok S e k) : zTh g d 121 [.inr (.inr ((0, 11), 0)), .inl e, .inl k] μ := by
  have ev := hC.env
  refine vx_ofW (cc := (zMt 121).2.1) (maxL := 3) (ret := some .int) (by decide +kernel) rfl ?_
  intro p e9 s m args below meth c s₁ B hml ht hv
  obtain ⟨⟨rfl, hoks, hrel, hst⟩, hxs⟩ := hv
  have he32 : zI32 e := hoks _ (List.mem_cons_of_mem _ List.mem_cons_self)
  have hk32 : zI32 k := hoks _ (List.mem_cons_of_mem _ (List.mem_cons_of_mem _ List.mem_cons_self))
  have hex := B.exec
  have hb := B.bytes
  have hts := atoms_spec (ws := zws (zMt 121)) B.pre
  have hown : s.vm.findClass (zMt 121).1.cls = some m.cls := findClass_of_methodNamed B.named
  have hlocks := B.notSynchronized
  have hlv := lv_entry ([.ref (zad g 0), .int (Int32.ofInt e), .int (Int32.ofInt k)] : List Value) (n := 3) (Nat.le_of_ble_eq_true rfl)
  show W p g.1 e9 (zrx d) s m _ below meth c s.heap [] 0 0 _ (entryFrame m ([.ref (zad g 0), .int (Int32.ofInt e), .int (Int32.ofInt k)] : List Value).toArray 3)
  rw [lg_entry_eq]
  generalize (lg_sl ([.ref (zad g 0), .int (Int32.ofInt e), .int (Int32.ofInt k)] : List Value) ++ List.replicate (3 - (lg_sl ([.ref (zad g 0), .int (Int32.ofInt e), .int (Int32.ofInt k)] : List Value)).length) Slot.unset).toArray = ls at hlv ⊢
  have hlv : lv_has ls 3 [(0, .ref (zad g 0)), (1, .int (Int32.ofInt e)), (2, .int (Int32.ofInt k))] := hlv
  have C : zCx g d (zMt 121) p (zrx d) s m (([.inr (.inr ((0, 11), 0)), .inl e, .inl k] : List zV).map (zR g)).toArray c 0 0 := ⟨hex, hb, hml, hown, fun w hw => hts w (List.mem_cons_of_mem _ hw), hst, Nat.le_refl _, Nat.le_refl _, Nat.zero_le _, Nat.zero_le _⟩
  have hls : ls.size = c.maxLocals := hlv.1.trans hml.symm
  refine lv_aload_n C.1 C.2.1 (show decode (zMt 121).2.1 0 = .ok (.aload_n 0, 1) by rw [zM121]; decide +kernel) rfl (lv_at hlv 0 rfl) ?_
  refine zw_get (j := 0) (c := 11) (k := 1) C hrel rfl (show decode (zMt 121).2.1 1 = .ok (.getfield 19, 3) by rw [zM121]; decide +kernel) zp11_19.1 rfl rfl ?_
  refine lv_iload_n C.1 C.2.1 (show decode (zMt 121).2.1 4 = .ok (.iload_n 1, 1) by rw [zM121]; decide +kernel) rfl (lv_at hlv 1 rfl) ?_
  refine zw_callV (id := 31) (n := 1) (cI := 3) (j := 5) (as := [.inl e]) (rest := []) (K := fun v μ' => ((v = some (.inl 1) ∧ 0 ≤ e ∧ e < μ 5 0) ∨ (v = some (.inl 0) ∧ ¬ (0 ≤ e ∧ e < μ 5 0))) ∧ μ' = μ) C hlv.1 rfl (show decode (zMt 121).2.1 5 = .ok (.invokevirtual 174, 3) by rw [zM121]; decide +kernel) ⟨zp11_174.1, zp11_174.2⟩ rfl (fun v hv => by rcases List.mem_cons.mp hv with rfl | h9; exact he32; cases h9) rfl (Nat.zero_le _) (by omega) hrel va_S.rf (c_has (fun q => ⟨Or.inl ⟨rfl, q⟩, rfl⟩) (fun q => ⟨Or.inr ⟨rfl, q⟩, rfl⟩)) (fun v μ' H' locs' hr' hS' _ hK => ?_)
  obtain ⟨hv, rfl⟩ := hK
  rcases hv with ⟨rfl, q⟩ | ⟨rfl, q⟩
  · refine lv_if_ne (x := Int32.ofInt 1) (tgt := 21) C.1 C.2.1 (show decode (zMt 121).2.1 8 = .ok (.ifCond .ne 13, 3) by rw [zM121]; decide +kernel) rfl (fun _ => ?_) (fun hc => absurd hc (by decide))
    refine lv_iload_n C.1 C.2.1 (show decode (zMt 121).2.1 21 = .ok (.iload_n 2, 1) by rw [zM121]; decide +kernel) rfl (lv_at hlv 2 rfl) ?_
    have nk : k < 0 ∨ 6 < k := by
      unfold of_ok at no
      omega
    refine lv_tableOut (x := Int32.ofInt k) (tgt := 181) C.1 C.2.1 (show decode (zMt 121).2.1 22 = .ok (.tableswitch 159 0 6 #[42, 55, 72, 82, 92, 120, 138], 42) by rw [zM121]; decide +kernel) (by rw [zto_of hk32]; exact nk) (by decide) ?_
    exact zw_throw hl C (by decide +kernel) hxs (by omega) hst.2.2.2.2.2.2.2.2.1 hr' hS' hls ht hlocks (by rw [zM121]; decide +kernel) (by rw [zM121]; decide +kernel) (by rw [zM121]; decide +kernel) (by rw [zM121]; decide +kernel) (by rw [zM121]; decide +kernel)
  · refine lv_if_ne (x := Int32.ofInt 0) (tgt := 21) C.1 C.2.1 (show decode (zMt 121).2.1 8 = .ok (.ifCond .ne 13, 3) by rw [zM121]; decide +kernel) rfl (fun hc => absurd (by decide) hc) (fun _ => ?_)
    exact zw_throw hl C (by decide +kernel) hxs (by omega) hst.2.2.2.2.2.2.2.1 hr' hS' hls ht hlocks (by rw [zM121]; decide +kernel) (by rw [zM121]; decide +kernel) (by rw [zM121]; decide +kernel) (by rw [zM121]; decide +kernel) (by rw [zM121]; decide +kernel)
theorem zx_row (hl : g.1.stackTraces = false) (hd : 10 ≤ d) (hC : cS μ S) (hI : iS nn S) (no : ¬ row_ok S x) : zTh g d 159 [.inr (.inr ((0, 11), 0)), .inl x] μ := by
  have r12 := hI.2.2.2.1
  have hr1 : μ 18 1 = (S.2.2.1.length : Int) := hC.2.2.1.1
  refine vx_ofW (cc := (zMt 159).2.1) (maxL := 2) (ret := some .int) (by decide +kernel) rfl ?_
  intro p e9 s m args below meth c s₁ B hml ht hv
  obtain ⟨⟨rfl, hoks, hrel, hst⟩, hxs⟩ := hv
  have hx32 : zI32 x := hoks _ (List.mem_cons_of_mem _ List.mem_cons_self)
  have hex := B.exec
  have hb := B.bytes
  have hts := atoms_spec (ws := zws (zMt 159)) B.pre
  have hown : s.vm.findClass (zMt 159).1.cls = some m.cls := findClass_of_methodNamed B.named
  have hlocks := B.notSynchronized
  have hlv := lv_entry ([.ref (zad g 0), .int (Int32.ofInt x)] : List Value) (n := 2) (Nat.le_of_ble_eq_true rfl)
  show W p g.1 e9 (zrx d) s m _ below meth c s.heap [] 0 0 _ (entryFrame m ([.ref (zad g 0), .int (Int32.ofInt x)] : List Value).toArray 2)
  rw [lg_entry_eq]
  generalize (lg_sl ([.ref (zad g 0), .int (Int32.ofInt x)] : List Value) ++ List.replicate (2 - (lg_sl ([.ref (zad g 0), .int (Int32.ofInt x)] : List Value)).length) Slot.unset).toArray = ls at hlv ⊢
  have hlv : lv_has ls 2 [(0, .ref (zad g 0)), (1, .int (Int32.ofInt x))] := hlv
  have C : zCx g d (zMt 159) p (zrx d) s m (([.inr (.inr ((0, 11), 0)), .inl x] : List zV).map (zR g)).toArray c 0 0 := ⟨hex, hb, hml, hown, fun w hw => hts w (List.mem_cons_of_mem _ hw), hst, Nat.le_refl _, Nat.le_refl _, Nat.zero_le _, Nat.zero_le _⟩
  have hls : ls.size = c.maxLocals := hlv.1.trans hml.symm
  have thr : W p g.1 e9 (zrx d) s m (([.inr (.inr ((0, 11), 0)), .inl x] : List zV).map (zR g)).toArray below meth c s.heap [] 0 0 (vx_MQ below (fun _ _ _ _ => False) (zXc g μ) (([.inr (.inr ((0, 11), 0)), .inl x] : List zV).map (zR g)).toArray s 1 6 (zA g)) (F0 m 15 ls []) :=
    zw_throwW hl C (by decide +kernel) hxs (by omega) hst.2.2.2.2.2.2.2.2.2.1 hrel va_S.rf hls ht hlocks (by rw [zM159]; decide +kernel) (by rw [zM159]; decide +kernel) (by rw [zM159]; decide +kernel) (by rw [zM159]; decide +kernel) (by rw [zM159]; decide +kernel)
  refine lv_iload_n C.1 C.2.1 (show decode (zMt 159).2.1 0 = .ok (.iload_n 1, 1) by rw [zM159]; decide +kernel) rfl (lv_at hlv 1 rfl) ?_
  refine lv_if_lt (x := Int32.ofInt x) (tgt := 15) C.1 C.2.1 (show decode (zMt 159).2.1 1 = .ok (.ifCond .lt 14, 3) by rw [zM159]; decide +kernel) rfl (fun _ => thr) (fun hc => ?_)
  have x0 : 0 ≤ x := Int.not_lt.mp (fun z => hc ((zof_lt hx32 zI32_0).mpr z))
  refine lv_iload_n C.1 C.2.1 (show decode (zMt 159).2.1 4 = .ok (.iload_n 1, 1) by rw [zM159]; decide +kernel) rfl (lv_at hlv 1 rfl) ?_
  refine lv_aload_n C.1 C.2.1 (show decode (zMt 159).2.1 5 = .ok (.aload_n 0, 1) by rw [zM159]; decide +kernel) rfl (lv_at hlv 0 rfl) ?_
  refine zw_get (j := 0) (c := 11) (k := 3) C hrel rfl (show decode (zMt 159).2.1 6 = .ok (.getfield 33, 3) by rw [zM159]; decide +kernel) zp11_33.1 rfl rfl ?_
  refine zw_get (j := 18) (c := 5) (k := 1) C hrel rfl (show decode (zMt 159).2.1 9 = .ok (.getfield 377, 3) by rw [zM159]; decide +kernel) zp11_377.1 rfl rfl ?_
  refine lv_icmp_lt (x := Int32.ofInt x) (y := Int32.ofInt (μ 18 1)) (tgt := 26) C.1 C.2.1 (show decode (zMt 159).2.1 12 = .ok (.if_icmp .lt 14, 3) by rw [zM159]; decide +kernel) rfl (fun hc2 => ?_) (fun _ => thr)
  exact absurd ⟨x0, by rw [← hr1]; exact (zof_lt hx32 (by rw [hr1]; unfold zI32; omega)).mp hc2⟩ no
end
