-- needs b6
/-! the run of a constructor is sound -/
theorem kMt_z (id : Nat) : kMt (13 + id) = zMt id := by
  unfold kMt
  rw [if_neg (by omega), Nat.add_sub_cancel_left]
theorem kKn_ok {n : Nat} (h : kKn n = true) : kMchk (kMt n) = true := by
  unfold kKn at h
  rw [Bool.or_eq_true, Bool.or_eq_true, Bool.or_eq_true] at h
  rcases h with h | h | h | h
  · have h := Nat.le_of_ble_eq_true h
    match n, h with
    | 0, _ => exact kk_0
    | 1, _ => exact kk_1
    | 2, _ => exact kk_2
    | 3, _ => exact kk_3
    | 4, _ => exact kk_4
    | 5, _ => exact kk_5
    | 6, _ => exact kk_6
    | 7, _ => exact kk_7
    | 8, _ => exact kk_8
    | 9, _ => exact kk_9
    | 10, _ => exact kk_10
    | 11, _ => exact kk_11
    | 12, _ => exact kk_12
    | q + 13, h => exact absurd h (by omega)
  · rw [Nat.eq_of_beq_eq_true h]
    exact kk_177
  · rw [Nat.eq_of_beq_eq_true h]
    exact kk_47
  · rw [Nat.eq_of_beq_eq_true h]
    exact kk_298
theorem kCt_ok : ∀ q ∈ kCt, Cond.methodLink (zOwn.getD q.1 "") q.2.1 (kMt q.2.2).1 ∈ zTb ∧ kCe (kMt q.2.2) (kNp.getD q.2.2 0) := List.forall_mem_cons.mpr ⟨⟨kl11_9, kce_4⟩, List.forall_mem_cons.mpr ⟨⟨kl11_39, kce_7⟩, List.forall_mem_cons.mpr ⟨⟨kl11_46, kce_10⟩, List.forall_mem_cons.mpr ⟨⟨kl11_55, kce_9⟩, List.forall_mem_cons.mpr ⟨⟨kl11_64, kce_0⟩, List.forall_mem_cons.mpr ⟨⟨kl11_73, kce_1⟩, List.forall_mem_cons.mpr ⟨⟨kl11_82, kce_8⟩, List.forall_mem_cons.mpr ⟨⟨kl11_89, kce_2⟩, List.forall_mem_cons.mpr ⟨⟨kl2_11, kce_7⟩, List.forall_mem_cons.mpr ⟨⟨kl9_60, kce_7⟩, List.forall_mem_cons.mpr ⟨⟨kl13_19, kce_11⟩, List.forall_mem_cons.mpr ⟨⟨kl13_22, kce_12⟩, fun _ h => absurd h List.not_mem_nil⟩⟩⟩⟩⟩⟩⟩⟩⟩⟩⟩⟩
theorem kCn_ok : ∀ q ∈ kCn, q.1 = 11 ∧ (q.2.1, (kMt q.2.2).1) ∈ kNm ∧ kCe (kMt q.2.2) 0 := List.forall_mem_cons.mpr ⟨⟨rfl, List.mem_cons_self, kce_3⟩, List.forall_mem_cons.mpr ⟨⟨rfl, List.mem_cons_of_mem _ List.mem_cons_self, kce_6⟩, List.forall_mem_cons.mpr ⟨⟨rfl, List.mem_cons_of_mem _ (List.mem_cons_of_mem _ List.mem_cons_self), kce_5⟩, fun _ h => absurd h List.not_mem_nil⟩⟩⟩
theorem kOb_ok {own i : Nat} (h : own < 13 ∧ i = kOb.getD own 0) : Cond.methodLink (zOwn.getD own "") i Lib.objectInit ∈ zTb := by
  obtain ⟨h, rfl⟩ := h
  match own, h with
  | 0, _ => exact ko_0
  | 1, _ => exact ko_1
  | 2, _ => exact ko_2
  | 3, _ => exact ko_3
  | 4, _ => exact ko_4
  | 5, _ => exact ko_5
  | 6, _ => exact ko_6
  | 7, _ => exact ko_7
  | 8, _ => exact ko_8
  | 9, _ => exact ko_9
  | 10, _ => exact ko_10
  | 11, _ => exact ko_11
  | 12, _ => exact ko_12
  | q + 13, h => exact absurd h (by omega)
theorem kcat (ad : Nat → Nat) : ∀ l : List kV, ((l.map (kval ad)).map fun v => v.category).sum = l.length
  | [] => rfl
  | v :: l => by
    rw [List.map_cons, List.map_cons, List.sum_cons, kcat ad l, kval_cat, List.length_cons]
    omega
section
variable {g : zG} {d : Nat} {M : zMeth} {pc : Nat} {ad : Nat → Nat} {ins : Instr} {E E' E1 : List kE} {st st' : List kV} {lv : List (Nat × kV)} {c1 s1 : Nat}
variable {p : Program} {e : Env} {R : Room} {s : State} {m : MethodId} {args : Array Value} {below : List Frame} {meth : Method} {cc : Code} {H : Heap} {locs : List Loc} {cells slots : Nat} {Q : State → Prop} {ls : Array Slot} {st0 rest : List Value}
theorem kcl_ok {n : Nat} {as t : List kV} (C : kCx g d M p R s m args meth cc) (hd : decode M.2.1 pc = .ok (ins, klen ins)) (hls : ls.size = M.2.2.1) (hr : kRel g ad E H) (hS : va_S (zA g) s.heap H locs) (h : kcl M ins E st = some (n, as, t)) (hd0 : 0 < d) (ht : t.length ≤ 6) (hf : cells + c1 ≤ R.cells ∧ slots + s1 ≤ R.slots) (hM : kMet g (d - 1) (kMt n) ad E as E1 c1 s1)
    (kk : ∀ (ad' : Nat → Nat) (H' : Heap) (locs' : List Loc), (∀ j, j < E.length → ad' j = ad j) → kRel g ad' E1 H' → va_S (zA g) s.heap H' locs' → W p g.1 e R s m args below meth cc H' locs' (cells + c1) (slots + s1) Q (F0 m (pc + 3) ls (t.map (kval ad)))) : W p g.1 e R s m args below meth cc H locs cells slots Q (F0 m pc ls (st.map (kval ad))) := by
  have hw := C.2.2.2.2.1
  have hfr : d ≤ R.frames := C.2.2.2.2.2.2.1
  have hlo : 64 * d ≤ R.locals := C.2.2.2.2.2.2.2.1
  have hsz : g.2.2.2.2.2 ≤ H.size := Nat.le_trans C.2.2.2.2.2.2.2.2.2 hS.1
  have pre : ∀ (av : List kV) (U : State), U.heap = H → s.WarmedH U.vm → kPc g ad E av (av.map (kval ad)).toArray U := fun av U hU hWm => ⟨rfl, by rw [hU]; exact hr, kSt_moved C.2.2.2.2.2.1 hWm, by rw [hU]; exact hsz⟩
  have hcat : ((t.map (kval ad)).map fun v => v.category).sum ≤ 8 := by rw [kcat]; omega
  unfold kcl at h
  split at h
  · rename_i i
    split at h
    · rename_i c ec
      split at h
      · rename_i as9 b t9 ep
        cases h
        obtain ⟨w1, w2, w3, w4, w5, w6, w7, w8⟩ := kCt_ok _ (kfind_mem _ ec)
        obtain ⟨l, l1, l2, l3⟩ := kpop_spec _ _ _ _ _ ep
        rw [List.append_nil] at l2
        subst l2
        subst l3
        have w5 : (kMt n).2.2.1 ≤ 45 := w5
        have ew : zws (kMt n) = Cond.code (kMt n).1 (kMt n).2.1 (kMt n).2.2.1 none :: zTb := by unfold zws; rw [w8]
        refine kafter (A := (Value.ref (ad b) :: (l.reverse.map (kval ad))).toArray) hS ?_ kk
        exact va_runI (Ts := zTb) (own := zOwn.getD M.2.2.2.2.1 "") (index := i) (n := kNp.getD n 0) (bytes := (kMt n).2.1) (maxL := (kMt n).2.2.1) (As := l.reverse.map (kval ad)) (b := ad b) ⟨C.1, C.2.1, C.2.2.1, C.2.2.2.1, hw⟩ hM ⟨callB_of (kNp.getD n 0) hw (kgoodIn w3) ew rfl rfl (hw _ w2) (hw _ w1) w4 ⟨by show d - 1 + 1 ≤ R.frames; omega, by show 8 + ((kMt n).2.2.1 + 11) + 64 * (d - 1) ≤ R.locals; omega⟩, w6, hw _ w7⟩ ⟨kPc_blind _, pre (some (.inr b) :: l.reverse)⟩ rfl (by rw [List.length_map, List.length_reverse]; exact l1) hls (by rw [← List.map_reverse, List.reverse_reverse, List.map_append]; rfl) (lv_room hcat) hd hf
      · cases h
    · split at h
      · rename_i c ec
        split at h
        · rename_i as9 b t9 ep
          cases h
          obtain ⟨w0, w1, w2, w3, w4, w5, w6, w7, w8⟩ := kCn_ok _ (kfind_mem _ ec)
          obtain ⟨l, l1, l2, l3⟩ := kpop_spec _ _ _ _ _ ep
          rw [List.append_nil] at l2
          subst l2
          subst l3
          have w5 : (kMt n).2.2.1 ≤ 45 := w5
          have ew : zws (kMt n) = Cond.code (kMt n).1 (kMt n).2.1 (kMt n).2.2.1 none :: zTb := by unfold zws; rw [w8]
          have w0 : M.2.2.2.2.1 = 11 := w0
          refine kafter (A := (Value.ref (ad b) :: (l.reverse.map (kval ad))).toArray) hS ?_ kk
          exact va_runIN (Ts := zTb) (own := zOwn.getD M.2.2.2.2.1 "") (host := RX11) (index := i) (n := 0) (bytes := (kMt n).2.1) (maxL := (kMt n).2.2.1) (As := l.reverse.map (kval ad)) (b := ad b) ⟨C.1, C.2.1, C.2.2.1, C.2.2.2.1, hw⟩ hM ⟨va_cnB 0 hw (kgoodIn w3) ew rfl rfl (by rw [w0]; exact C.2.2.2.2.2.1.2.2 _ w1) (hw _ w2) w4 ⟨by show d - 1 + 1 ≤ R.frames; omega, by show 8 + ((kMt n).2.2.1 + 11) + 64 * (d - 1) ≤ R.locals; omega⟩, w6, hw _ w7⟩ ⟨kPc_blind _, pre (some (.inr b) :: l.reverse)⟩ rfl (by rw [List.length_map, List.length_reverse]; exact l1) hls (by rw [← List.map_reverse, List.reverse_reverse, List.map_append]; rfl) (lv_room hcat) hd hf
        · cases h
      · cases h
  · rename_i i
    split at h
    · rename_i id np ei
      split at h
      · rename_i as9 b t9 ep
        split at h
        · rename_i ci fs eb
          split at h
          · rename_i hci
            cases h
            rw [kMt_z] at hM
            obtain ⟨⟨w1, w2, w3, w4, w5⟩, w6, w7, T, N, w8⟩ := kpe_ok ei
            obtain ⟨l, l1, l2, l3⟩ := kpop_spec _ _ _ _ _ ep
            rw [List.append_nil] at l2
            subst l2
            subst l3
            rw [← hci] at w8
            refine kafter (A := (Value.ref (ad b) :: (l.reverse.map (kval ad))).toArray) hS ?_ kk
            exact va_runV (C := (zMt id).1.cls) (Ts := zTb) (own := zOwn.getD M.2.2.2.2.1 "") (index := i) (n := np.toNat % 100) (bytes := (zMt id).2.1) (maxL := (zMt id).2.2.1) (ret := (zMt id).2.2.2.1) (As := l.reverse.map (kval ad)) (b := ad b) ⟨C.1, C.2.1, C.2.2.1, C.2.2.2.1, hw⟩ hM ⟨callB_of (np.toNat % 100) hw (zgoodIn w3) rfl rfl rfl (hw _ w2) (hw _ w1) w4 ⟨by show d - 1 + 1 ≤ R.frames; omega, by show 8 + ((zMt id).2.2.1 + 11) + 64 * (d - 1) ≤ R.locals; omega⟩, hw _ w6, hw _ w7⟩ ⟨kPc_blind _, va_recv C.2.2.2.2.2.1.1 hr.1 w8 (kW_get0 eb), pre (some (.inr b) :: l.reverse)⟩ rfl (by rw [List.length_map, List.length_reverse]; exact l1) hls (by rw [← List.map_reverse, List.reverse_reverse, List.map_append]; rfl) (lv_room hcat) hd hf
          · cases h
        · cases h
      · cases h
    · cases h
  · rename_i i
    split at h
    · rename_i id np ei
      split at h
      · rename_i as9 t9 ep
        cases h
        rw [kMt_z] at hM
        obtain ⟨⟨w1, w2, w3, w4, w5⟩, w6⟩ := kpe_ok ei
        obtain ⟨l, l1, l2, l3⟩ := kpop_spec _ _ _ _ _ ep
        rw [List.append_nil] at l2
        subst l2
        subst l3
        refine kafter (A := (l.reverse.map (kval ad)).toArray) hS ?_ kk
        exact va_runS (Ts := zTb) (own := zOwn.getD M.2.2.2.2.1 "") (index := i) (n := np.toNat) (bytes := (zMt id).2.1) (maxL := (zMt id).2.2.1) (ret := (zMt id).2.2.2.1) (As := l.reverse.map (kval ad)) ⟨C.1, C.2.1, C.2.2.1, C.2.2.2.1, hw⟩ hM ⟨callB_of np.toNat hw (zgoodIn w3) rfl rfl rfl (hw _ w2) (hw _ w1) w4 ⟨by show d - 1 + 1 ≤ R.frames; omega, by show 8 + ((zMt id).2.2.1 + 11) + 64 * (d - 1) ≤ R.locals; omega⟩, hw _ w6⟩ ⟨kPc_blind _, pre l.reverse⟩ rfl (by rw [List.length_map, List.length_reverse]; exact l1) hls (by rw [← List.map_reverse, List.reverse_reverse, List.map_append]) (lv_room hcat) hd hf
      · cases h
    · cases h
  · cases h
theorem kobj_ok {t : List kV} (C : kCx g d M p R s m args meth cc) (hd : decode M.2.1 pc = .ok (ins, klen ins)) (hls : ls.size = M.2.2.1) (hd0 : 0 < d) (h : kobj M ins st = some t) (ht : t.length ≤ 6)
    (kk : W p g.1 e R s m args below meth cc H locs cells slots Q (F0 m (pc + 3) ls (t.map (kval ad)))) : W p g.1 e R s m args below meth cc H locs cells slots Q (F0 m pc ls (st.map (kval ad))) := by
  have hfr : d ≤ R.frames := C.2.2.2.2.2.2.1
  have hlo : 64 * d ≤ R.locals := C.2.2.2.2.2.2.2.1
  unfold kobj at h
  split at h
  · rename_i i
    split at h
    · rename_i a t9
      split at h
      · rename_i ho
        cases h
        exact W.objInit (own := zOwn.getD M.2.2.2.2.1 "") (a := ad a) (rest := t.map (kval ad)) C.1 C.2.1 C.2.2.2.1 (C.2.2.2.2.1 _ (kOb_ok ho)) (C.2.2.2.2.1 _ ko_w.1) (C.2.2.2.2.1 _ ko_w.2) rfl (hls.trans C.2.2.1.symm) rfl hd (by omega) (by show 0 + ((t.map (kval ad)).map fun v => v.category).sum + 12 ≤ R.locals; rw [kcat]; omega) kk
      · cases h
    · cases h
  · cases h
end
