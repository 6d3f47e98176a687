-- needs as
/-! rows over my cells in a walk by hand: a field, a call that returns, a call that throws, a long stored -/
def zAt : List Cond := (zOwnA RX11 190).filter vx_no
theorem zAt_g : ∀ w ∈ zAt.filter goodWord, w ∈ zTb := fun w hw => List.mem_filter.mpr ⟨(show ∀ w ∈ zAt.filter goodWord, w ∈ lw_tbl by decide +kernel) w hw, (List.mem_filter.mp hw).2⟩
theorem zAt_f : ∀ w ∈ zAt.filter (fun w => !goodWord w), w.faceAtom = true ∧ w.onTables = true := by decide +kernel
theorem zAt_l : ∀ w ∈ zAt.filter (fun w => !goodWord w), w ∈ lw_tbl := by decide +kernel
theorem zAt_o : ∀ w ∈ Cond.classLink RX11 186 zNse :: Cond.initialized zNse :: zAt, vx_ot w = true := by decide +kernel
theorem zAt_k : Cond.classLink RX11 186 zNse ∈ zTb := List.mem_filter.mpr ⟨by decide +kernel, by decide +kernel⟩
theorem zAt_i : Cond.initialized zNse ∈ zTb := List.mem_filter.mpr ⟨by decide +kernel, by decide +kernel⟩
theorem zAt_c : Cond.castable zNse zNse ∈ zAt.filter (fun w => !goodWord w) := by decide +kernel
/-- what a throw needs of the state besides -/
def zXs (g : zG) (U : State) : Prop := vx_Zq Bundle.tN "UNASSIGNED_STACK" Bundle.steD (zA g) U U.heap ∧ vx_Zq Bundle.tN "SUPPRESSED_SENTINEL" Bundle.listD (zA g) U U.heap ∧ ∀ w ∈ zAt.filter (fun w => !goodWord w), va_Nw w U
def zPx (g : zG) (av : List zV) (μ : zM) : Array Value → State → Prop := fun a U => zPc g av μ a U ∧ zXs g U
def zXc (g : zG) (μ : zM) : String → State → State → Prop := fun E st t => E = zNse ∧ zRel g μ t.heap ∧ va_F (zA g) st t
def zrx (d : Nat) : Room := { frames := d, cells := 1, slots := 6, locals := 64 * d }
/-- a call of the method throws, with nothing changed -/
def zTh (g : zG) (d id : Nat) (av : List zV) (μ : zM) : Prop := vx_Met g.1 (zMt id).1 (zws (zMt id)) (zrx d) (zPx g av μ) (fun _ _ _ _ => False) (zXc g μ) 1 6 (zA g)
section
variable {g : zG} {d : Nat} {M : zMeth} {pc : Nat} {μ : zM}
theorem zXs_moved {s U : State} {locs : List Loc} (h : zXs g s) (hvm : s.WarmedH U.vm) (hS : va_S (zA g) s.heap U.heap locs) : zXs g U :=
  ⟨(h.1.moved hvm.alike).kept hS.2.1, (h.2.1.moved hvm.alike).kept hS.2.1, fun w hw => va_tabs (zAt_f w hw).2 (rfl : (s.setVm U.vm).vm = U.vm) (Cond.faceAtom_setVm hvm.alike w (zAt_f w hw).1 (h.2.2 w hw))⟩
theorem zPx_blind (g : zG) (av : List zV) (μ : zM) : FrameBlind (zPx g av μ) := by
  intro a U f mk h
  refine ⟨zPc_blind g av μ a U f mk h.1, vx_Zq.moved (u := U) (U := U.calling f mk a) (Vm.Alike.refl U.vm) h.2.1, vx_Zq.moved (u := U) (U := U.calling f mk a) (Vm.Alike.refl U.vm) h.2.2.1, fun w hw => ?_⟩
  exact va_tabs (zAt_f w hw).2 (rfl : U.vm = (U.calling f mk a).vm) (h.2.2.2 w hw)
variable {p : Program} {e : Env} {R : Room} {s : State} {m : MethodId} {args : Array Value} {below : List Frame} {meth : Method} {cc : Code} {H : Heap} {locs : List Loc} {cells slots : Nat} {Q : State → Prop} {ls : Array Slot} {rest st0 : List Value}
theorem zw_get {i b c k j : Nat} {fi : zFI} {v : Value} (C : zCx g d M p R s m args cc cells slots) (hr : zRel g μ H) (hj : zSh[j]? = some (0, c)) (hd : decode M.2.1 pc = .ok (.getfield i, 3)) (hp : zPf M.2.2.2.2.1 i b c k) (hfi : zfi c k = some fi) (hv : v = zFv g j (μ j) k fi)
    (kk : W p g.1 e R s m args below meth cc H locs cells slots Q (F0 m (pc + 3) ls (v :: rest))) : W p g.1 e R s m args below meth cc H locs cells slots Q (F0 m pc ls (.ref (zad g j) :: rest)) := by
  obtain ⟨CN, T, N, hc, hk, hlen, hlink, -⟩ := hp
  have he : (zW g μ)[j]? = some (zad g j, .inr (c, zFs g j (μ j) 0 (zFl.getD c []))) := zW_get hj
  have hfs : (zFs g j (μ j) 0 (zFl.getD c []))[k]? = some v := by
    rw [zFs_get, ← zfi_eq, hfi, Nat.zero_add, hv]; rfl
  rcases hlink with ⟨-, hlink⟩ | ⟨-, hlink⟩
  · exact va_get (D := zD g) (ci := c) (v := v) (C := CN) (T := T) (N := N) (ref := (T k).1) C.1 C.2.1 C.2.2.2.2.1 (zCf_ok c CN T N hc).1 C.2.2.2.1 C.2.2.2.2.2.1.1 hr.1 j he hc k hk (C.2.2.2.2.1 _ hlink) (fun _ h9 => h9) hfs hd kk
  · exact va_getN (D := zD g) (ci := c) (v := v) (C := CN) (T := T) (N := N) (ref := (T k).1) C.1 C.2.1 C.2.2.2.2.1 (zCf_ok c CN T N hc).1 C.2.2.2.1 C.2.2.2.2.2.1.1 hr.1 j he hc k hk (va_Nw.use rfl (C.2.2.2.2.2.1.2.2.2.2.2.1 _ hlink)) (fun _ h9 => h9) hfs hd kk
/-- what a call's tables say -/
def zCw (own i id n cI : Nat) : Prop := zPi own i id n ∧ zVe id cI
theorem zw_callV {i id n cI j : Nat} {as : List zV} {K : Option zV → zM → Prop} (C : zCx g d M p R s m args cc cells slots) (hls : ls.size = M.2.2.1) (hj : zSh[j]? = some (0, cI)) (hd : decode M.2.1 pc = .ok (.invokevirtual i, 3)) (hp : zCw M.2.2.2.2.1 i id n cI) (hn : as.length = n) (hok : ∀ v ∈ as, zok v)
    (hst : st0 = (as.map (zR g)).reverse ++ .ref (zad g j) :: rest) (hc : (rest.map fun v => v.category).sum ≤ 8) (hd0 : 0 < d) (hr : zRel g μ H) (hS : va_S (zA g) s.heap H locs) (h : zCall g (d - 1) id (.inr (.inr ((0, cI), j)) :: as) μ K)
    (kk : ∀ (v : Option zV) (μ' : zM) (H' : Heap) (locs' : List Loc), zRel g μ' H' → va_S (zA g) s.heap H' locs' → zokO v → K v μ' → W p g.1 e R s m args below meth cc H' locs' cells slots Q (F0 m (pc + 3) ls ((v.map (zR g)).toList ++ rest))) : W p g.1 e R s m args below meth cc H locs cells slots Q (F0 m pc ls st0) := by
  have h := h.resolve_right (fun z => z)
  obtain ⟨⟨p1, p2, p3, p4, p5⟩, p6, p7, T, N, p8⟩ := hp
  have hw := C.2.2.2.2.1
  have hfr : d ≤ R.frames := C.2.2.2.2.2.2.1
  have hlo : 64 * d ≤ R.locals := C.2.2.2.2.2.2.2.1
  have he : (zW g μ)[j]? = some (zad g j, .inr (cI, zFs g j (μ j) 0 (zFl.getD cI []))) := zW_get hj
  have hrecv := va_recv C.2.2.2.2.2.1.1 hr.1 p8 he
  have hoks : ∀ v ∈ (.inr (.inr ((0, cI), j)) : zV) :: as, zok v := fun v hv9 => by
    rcases List.mem_cons.mp hv9 with rfl | h9
    · exact Or.inl hj
    · exact hok v h9
  have hrun : va_Run p g.1 e R s m args below meth cc H locs cells slots 0 0 (F0 m pc ls st0) rest (zQc g K (Value.ref (zad g j) :: as.map (zR g)).toArray) (zA g) := by
    refine va_runV (C := (zMt id).1.cls) (Ts := zTb) (own := zOwn.getD M.2.2.2.2.1 "") (index := i) (n := n) (bytes := (zMt id).2.1) (maxL := (zMt id).2.2.1) (ret := (zMt id).2.2.2.1) ⟨C.1, C.2.1, C.2.2.1, C.2.2.2.1, hw⟩ h ⟨?_, hw _ p6, hw _ p7⟩ ⟨zPc_blind g _ μ, hrecv, ?_⟩ rfl (by rw [List.length_map]; exact hn) hls hst (lv_room hc) hd ⟨C.2.2.2.2.2.2.2.2.1, C.2.2.2.2.2.2.2.2.2⟩
    · exact callB_of n hw (zgoodIn p3) rfl rfl rfl (hw _ p2) (hw _ p1) p4 ⟨by show d - 1 + 1 ≤ R.frames; omega, by show 8 + ((zMt id).2.2.1 + 11) + 64 * (d - 1) ≤ R.locals; omega⟩
    · intro U hU hWm
      exact ⟨rfl, hoks, by rw [hU]; exact hr, zSt_moved (locs := locs) C.2.2.2.2.2.1 hWm (by rw [hU]; exact hS)⟩
  intro T0 hT X
  obtain ⟨v, st₀, t, T', L, h0, X', hL, e1, e2, ⟨v', μ', hv', hok', hrel, hK, hz, hk⟩, st⟩ := hrun T0 hT X
  have hv2 : v = v'.map (zR g) := Outcome.returned.inj hv'
  subst hv2
  rw [h0] at hz hk
  have hS1 : va_S (zA g) s.heap T'.heap (locs ++ L) := by
    rw [e1]
    refine ⟨Nat.le_trans hS.1 hz, fun q h1 h2 => ?_, fun q hq => ?_⟩
    · rw [hk q (Nat.lt_of_lt_of_le h1 hS.1) h2]
      exact hS.2.1 q h1 h2
    · rcases List.mem_append.mp hq with h | h
      · exact hS.2.2 q h
      · exact hL q h
  obtain ⟨t2, a1, b1⟩ := kk v' μ' T'.heap (locs ++ L) (by rw [e1]; exact hrel) hS1 hok' hK T' rfl X'
  exact ⟨t2, st t2 a1, b1⟩
theorem zw_throwV {i id n cI j : Nat} {as : List zV} (C : zCx g d M p R s m args cc cells slots) (hx : zXs g s) (hls : ls.size = M.2.2.1) (hj : zSh[j]? = some (0, cI)) (hd : decode M.2.1 pc = .ok (.invokevirtual i, 3)) (hp : zCw M.2.2.2.2.1 i id n cI) (hn : as.length = n) (hok : ∀ v ∈ as, zok v)
    (hst : st0 = (as.map (zR g)).reverse ++ .ref (zad g j) :: rest) (hc : (rest.map fun v => v.category).sum ≤ 8) (hd0 : 0 < d) (hr : zRel g μ H) (hS : va_S (zA g) s.heap H locs) (hf : cells + 1 ≤ R.cells ∧ slots + 6 ≤ R.slots) (h : zTh g (d - 1) id (.inr (.inr ((0, cI), j)) :: as) μ)
    (kk : ∀ (q9 : Addr) (ce : Cell) (H' : Heap) (locs' : List Loc), zRel g μ H' → va_S (zA g) s.heap H' locs' → H'[q9]? = some ce → ce.vm = .none → s.vm.findClass zNse = some ce.cls → vx_W p g.1 e R s m args below meth cc H' locs' (cells + 1) (slots + 6) Q (F0 m pc ls rest) q9) : W p g.1 e R s m args below meth cc H locs cells slots Q (F0 m pc ls st0) := by
  obtain ⟨⟨p1, p2, p3, p4, p5⟩, p6, p7, T, N, p8⟩ := hp
  have hw := C.2.2.2.2.1
  have hfr : d ≤ R.frames := C.2.2.2.2.2.2.1
  have hlo : 64 * d ≤ R.locals := C.2.2.2.2.2.2.2.1
  have he : (zW g μ)[j]? = some (zad g j, .inr (cI, zFs g j (μ j) 0 (zFl.getD cI []))) := zW_get hj
  have hrecv := va_recv C.2.2.2.2.2.1.1 hr.1 p8 he
  have hoks : ∀ v ∈ (.inr (.inr ((0, cI), j)) : zV) :: as, zok v := fun v hv9 => by
    rcases List.mem_cons.mp hv9 with rfl | h9
    · exact Or.inl hj
    · exact hok v h9
  have hrun : vx_Run p g.1 e R s m args below meth cc H locs cells slots 1 6 (F0 m pc ls st0) rest (fun _ _ _ => False) (zXc g μ) (zA g) := by
    refine vx_runV (C := (zMt id).1.cls) (Ts := zTb) (own := zOwn.getD M.2.2.2.2.1 "") (index := i) (n := n) (bytes := (zMt id).2.1) (maxL := (zMt id).2.2.1) (ret := (zMt id).2.2.2.1) (As := as.map (zR g)) (b := zad g j) ⟨C.1, C.2.1, C.2.2.1, C.2.2.2.1, hw⟩ h ⟨?_, hw _ p6, hw _ p7⟩ ⟨zPx_blind g _ μ, hrecv, ?_⟩ rfl (by rw [List.length_map]; exact hn) hls hst (lv_room hc) hd hf
    · exact callB_of n hw (zgoodIn p3) rfl rfl rfl (hw _ p2) (hw _ p1) p4 ⟨by show d - 1 + 1 ≤ R.frames; omega, by show 8 + ((zMt id).2.2.1 + 11) + 64 * (d - 1) ≤ R.locals; omega⟩
    · intro U hU hWm
      exact ⟨⟨rfl, hoks, by rw [hU]; exact hr, zSt_moved (locs := locs) C.2.2.2.2.2.1 hWm (by rw [hU]; exact hS)⟩, zXs_moved (locs := locs) hx hWm (by rw [hU]; exact hS)⟩
  intro T0 hT X
  rcases hrun T0 hT X with ⟨v, st₀, t, T', L, h0, X', hL, e1, e2, hF, st⟩ | ⟨q, st₀, t, T', L, E, ce, h0, X', hL, e1, e2, ⟨hE, hrel, hz, hk⟩, hce, hcv, hcl, st⟩
  · exact hF.elim
  · rw [h0] at hz hk
    have hS1 : va_S (zA g) s.heap T'.heap (locs ++ L) := by
      rw [e1]
      refine ⟨Nat.le_trans hS.1 hz, fun q h1 h2 => ?_, fun q hq => ?_⟩
      · rw [hk q (Nat.lt_of_lt_of_le h1 hS.1) h2]
        exact hS.2.1 q h1 h2
      · rcases List.mem_append.mp hq with h | h
        · exact hS.2.2 q h
        · exact hL q h
    obtain ⟨t2, a1, b1⟩ := kk q ce T'.heap (locs ++ L) (by rw [e1]; exact hrel) hS1 (by rw [e1]; exact hce) hcv (by rw [← hE]; exact hcl) T' rfl X'
    exact ⟨t2, st.trans a1, b1⟩
theorem zw_last {j n : Nat} {i x : Int} (C : zCx g d M p R s m args cc cells slots) (hr : zRel g μ H) (hS : va_S (zA g) s.heap H locs) (hj : zSh[j]? = some (4, n)) (hi : 0 ≤ i ∧ i < n) (hi2 : zI32 i) (hx : zI64 x) (hd : decode M.2.1 pc = .ok (.lastore, 1))
    (kk : ∀ (H' : Heap) (locs' : List Loc), zRel g (zU μ j i x) H' → va_S (zA g) s.heap H' locs' → W p g.1 e R s m args below meth cc H' locs' cells slots Q (F0 m (pc + 1) ls rest)) : W p g.1 e R s m args below meth cc H locs cells slots Q (F0 m pc ls (.long (Int64.ofInt x) :: .int (Int32.ofInt i) :: .ref (zad g j) :: rest)) := by
  refine va_last (D := zD g) (a := zad g j) (f := fun a => Int64.ofInt (μ j a)) (i := Int32.ofInt i) (x := Int64.ofInt x) C.1 C.2.1 C.2.2.2.2.2.1.1 hr.1 (zW_D C.2.2.2.2.2.1.2.1 μ) hS j 3 (zW_get hj) rfl (zvp_in hi2 hi) hd (fun H1 locs1 hP hD hS1 => ?_)
  rw [← zupd_l hi2 hi.1] at hP
  have hP := (zW_upd (g := g) (μ := μ) hj (fun a ha => zU_off (i := i) (v := x) a ha)) ▸ hP
  exact kk H1 locs1 ⟨hP, zMok_U hr.2 hj hx⟩ hS1
theorem zRel_kept {H1 : Heap} (h : zRel g μ H) (hk : ∀ q : Nat, q < H.size → H1[q]? = H[q]?) : zRel g μ H1 := ⟨h.1.kept (fun k q hq => hk q.1 ((h.1 k q hq).lt)), h.2⟩
end
