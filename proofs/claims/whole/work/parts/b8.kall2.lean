-- needs b7
/-! the run of a constructor is sound: the whole of it -/
theorem kMchk_at {M : zMeth} (hM : kMchk M = true) {C r : zC} {pc len : Nat} {ins : Instr} (hp : ∃ pre, M.2.2.2.2.2 = pre ++ C) (hC : C = (pc, ins, len) :: r) : decode M.2.1 pc = .ok (ins, klen ins) ∧ (∃ pre, M.2.2.2.2.2 = pre ++ r) ∧ ∀ q r2, r = q :: r2 → q.1 = pc + klen ins := by
  subst hC
  obtain ⟨pre, hp⟩ := hp
  unfold kMchk at hM
  rw [Bool.and_eq_true, Bool.and_eq_true] at hM
  obtain ⟨h1, h2, -⟩ := hM
  have h1 := List.all_eq_true.mp h1 (pc, ins, len) (by rw [hp]; exact List.mem_append_right _ List.mem_cons_self)
  rw [Bool.and_eq_true] at h1
  have hl : len = klen ins := Nat.eq_of_beq_eq_true h1.2
  have hd := of_decide_eq_true h1.1
  rw [hp] at h2
  refine ⟨by rw [← hl]; exact hd, ⟨pre ++ [(pc, ins, len)], by rw [hp, List.append_assoc]; rfl⟩, fun q r2 e => ?_⟩
  have := zchain_next pre (pc, ins, len) r h2 q r2 e
  rw [← hl]
  exact this
theorem kargs (ad : Nat → Nat) : ∀ (av : List kV) (k : Nat), lv_args k (av.map (kval ad)) = kL ad (kent k av)
  | [], _ => rfl
  | v :: l, k => by
    show (k, kval ad v) :: lv_args (if (kval ad v).category = 2 then k + 2 else k + 1) (l.map (kval ad)) = (k, kval ad v) :: kL ad (kent (k + 1) l)
    rw [kval_cat, if_neg (by decide), kargs ad l]
theorem klg (ad : Nat → Nat) : ∀ l : List kV, (lg_sl (l.map (kval ad))).length = l.length
  | [] => rfl
  | v :: l => by
    have := klg ad l
    simp only [lg_sl, List.map_cons, List.flatMap_cons, List.length_append, List.length_cons] at this ⊢
    rw [this, kval_cat, if_neg (by decide)]
    show 1 + _ = _
    omega
def kT (g : zG) (d : Nat) (M : zMeth) (ad : Nat → Nat) (pc : Nat) (E : List kE) (lv : List (Nat × kV)) (st : List kV) (E' : List kE) (c s9 : Nat) : Prop := ∀ (p : Program) (e : Env) (R : Room) (s : State) (m : MethodId) (args : Array Value) (below : List Frame) (meth : Method) (cc : Code) (H : Heap) (locs : List Loc) (cells slots : Nat) (Q : State → Prop) (ls : Array Slot), kCx g d M p R s m args meth cc → lv_has ls M.2.2.1 (kL ad lv) → kRel g ad E H → va_S (zA g) s.heap H locs → cells + c ≤ R.cells → slots + s9 ≤ R.slots →
  (∀ (ad' : Nat → Nat) (H' : Heap) (locs' : List Loc) (ls' : Array Slot) (pc' : Nat), (∀ j, j < E.length → ad' j = ad j) → kRel g ad' E' H' → va_S (zA g) s.heap H' locs' → decode M.2.1 pc' = .ok (.return_, 1) → W p g.1 e R s m args below meth cc H' locs' (cells + c) (slots + s9) Q (F0 m pc' ls' [])) → W p g.1 e R s m args below meth cc H locs cells slots Q (F0 m pc ls (st.map (kval ad)))
section
variable {g : zG}
theorem kMet.intro {d : Nat} {M : zMeth} {ad : Nat → Nat} {E E' : List kE} {av : List kV} {c s9 : Nat} (hM : kMchk M = true) (hret : M.2.2.2.1 = none) (hav : av.length ≤ M.2.2.1) (h : kT g d M ad 0 E (kent 0 av) [] E' c s9) : kMet g d M ad E av E' c s9 := by
  have hpl : plainName M.1.cls = true ∧ M.1.cls = zOwn.getD M.2.2.2.2.1 "" := by
    unfold kMchk at hM
    rw [Bool.and_eq_true, Bool.and_eq_true, Bool.and_eq_true] at hM
    exact ⟨hM.2.2.1, of_decide_eq_true hM.2.2.2⟩
  refine Met.ofW (cc := M.2.1) (maxL := M.2.2.1) (ret := M.2.2.2.1) hpl.1 rfl ?_
  intro p e s m args below meth cc s₁ B hml hv
  obtain ⟨rfl, hrel, hst, hsz⟩ := hv
  have hx := B.exec
  have hb := B.bytes
  have hrt := B.returns
  have hts := atoms_spec (ws := zws M) B.pre
  have hown : s.vm.findClass M.1.cls = some m.cls := findClass_of_methodNamed B.named
  have hlocks := B.notSynchronized
  have hnm : meth.name = M.1.name := (name_of_methodNamed B.named B.method).1
  have hl := lv_entry (av.map (kval ad)) (n := M.2.2.1) (by rw [klg]; exact hav)
  rw [lg_entry_eq]
  generalize (lg_sl (av.map (kval ad)) ++ List.replicate (M.2.2.1 - (lg_sl (av.map (kval ad))).length) Slot.unset).toArray = ls at hl ⊢
  rw [kargs] at hl
  have C : kCx g d M p (krm d c s9) s m (av.map (kval ad)).toArray meth cc := ⟨hx, hb, hml, by rw [← hpl.2]; exact hown, fun w hw => hts w (List.mem_cons_of_mem _ hw), hst, Nat.le_refl _, Nat.le_refl _, fun h9 => hnm.trans h9, hsz⟩
  refine h p e (krm d c s9) s m _ below meth cc s.heap [] 0 0 _ ls C hl hrel va_S.rf (by show 0 + c ≤ c; omega) (by show 0 + s9 ≤ s9; omega) (fun ad' H' locs' ls' pc' ha hr' hS' hd' => ?_)
  rw [Nat.zero_add, Nat.zero_add]
  exact W.vret hx hb (hrt.trans hret) (fun t ht hW => ⟨rfl, ⟨ad', ha, by rw [ht]; exact hr'⟩, by rw [ht]; exact hS'.1, by rw [ht]; exact hS'.2.1⟩) hS'.2.2 hd'
theorem kret {n : Nat} (h : kKn n = true) : (kMt n).2.2.2.1 = none := by
  unfold kKn at h
  rw [Bool.or_eq_true, Bool.or_eq_true, Bool.or_eq_true] at h
  rcases h with h | h | h | h
  · have h := Nat.le_of_ble_eq_true h
    match n, h with
    | 0, _ => rfl
    | 1, _ => rfl
    | 2, _ => rfl
    | 3, _ => rfl
    | 4, _ => rfl
    | 5, _ => rfl
    | 6, _ => rfl
    | 7, _ => rfl
    | 8, _ => rfl
    | 9, _ => rfl
    | 10, _ => rfl
    | 11, _ => rfl
    | 12, _ => rfl
    | q + 13, h => exact absurd h (by omega)
  · rw [Nat.eq_of_beq_eq_true h]; rfl
  · rw [Nat.eq_of_beq_eq_true h]; rfl
  · rw [Nat.eq_of_beq_eq_true h]; rfl
theorem kfst {n : Nat} (h : kKn n = true) : ∀ q r, (kMt n).2.2.2.2.2 = q :: r → q.1 = 0 := by
  unfold kKn at h
  rw [Bool.or_eq_true, Bool.or_eq_true, Bool.or_eq_true] at h
  rcases h with h | h | h | h
  · have h := Nat.le_of_ble_eq_true h
    match n, h with
    | 0, _ => intro q r e; cases e; rfl
    | 1, _ => intro q r e; cases e; rfl
    | 2, _ => intro q r e; cases e; rfl
    | 3, _ => intro q r e; cases e; rfl
    | 4, _ => intro q r e; cases e; rfl
    | 5, _ => intro q r e; cases e; rfl
    | 6, _ => intro q r e; cases e; rfl
    | 7, _ => intro q r e; cases e; rfl
    | 8, _ => intro q r e; cases e; rfl
    | 9, _ => intro q r e; cases e; rfl
    | 10, _ => intro q r e; cases e; rfl
    | 11, _ => intro q r e; cases e; rfl
    | 12, _ => intro q r e; cases e; rfl
    | q + 13, h => exact absurd h (by omega)
  · rw [Nat.eq_of_beq_eq_true h]; intro q r e; cases e; rfl
  · rw [Nat.eq_of_beq_eq_true h]; intro q r e; cases e; rfl
  · rw [Nat.eq_of_beq_eq_true h]; intro q r e; cases e; rfl
theorem krun_sound : ∀ (n d : Nat) (M : zMeth) (C : zC) (E : List kE) (lv : List (Nat × kV)) (st : List kV) (E' : List kE) (c s9 : Nat), kMchk M = true → (∃ pre, M.2.2.2.2.2 = pre ++ C) → krun n d M C E lv st = some (E', c, s9) → ∀ pc : Nat, (∀ q r, C = q :: r → q.1 = pc) → ∀ ad : Nat → Nat, kT g d M ad pc E lv st E' c s9
  | 0, d, M, C, E, lv, st, E', c, s9, hM, hp, h, pc, hpc, ad => by cases h
  | n + 1, d, M, [], E, lv, st, E', c, s9, hM, hp, h, pc, hpc, ad => by cases h
  | n + 1, d, M, (pc0, ins, len) :: r, E, lv, st, E', c, s9, hM, hp, h, pc, hpc, ad => by
    have e0 : pc0 = pc := hpc _ _ rfl
    subst e0
    obtain ⟨hd, hp2, hpc2⟩ := kMchk_at hM hp rfl
    intro p e R s m args below meth cc H locs cells slots Q ls C hl hr hS hc hs kk
    simp only [krun] at h
    split at h
    · rename_i q eq
      obtain ⟨lv', st'⟩ := q
      exact kpure_ok C hd hl eq (fun ls' hl' => krun_sound n d M r E lv' st' E' c s9 hM hp2 h _ hpc2 ad p e R s m args below meth cc H locs cells slots Q ls' C hl' hr hS hc hs kk)
    · split at h
      · rename_i q eq
        obtain ⟨E2, st'⟩ := q
        cases hb : Nat.beq E2.length E.length
        · rw [hb] at h
          cases h
        · rw [hb] at h
          have e2 : E2.length = E.length := Nat.eq_of_beq_eq_true hb
          exact kheap_ok C hd hr hS eq (fun H' locs' hr' hS' => krun_sound n d M r E2 lv st' E' c s9 hM hp2 h _ hpc2 ad p e R s m args below meth cc H' locs' cells slots Q ls C hl hr' hS' hc hs (fun ad' H2 l2 ls2 pc2 ha => kk ad' H2 l2 ls2 pc2 (fun j hj => ha j (by omega))))
      · split at h
        · rename_i q eq
          obtain ⟨x, st', nn⟩ := q
          cases hb : (kok E.length E && (kokl E.length st' && kokL E.length lv))
          · rw [hb] at h
            cases h
          · rw [hb] at h
            rw [Bool.and_eq_true, Bool.and_eq_true] at hb
            obtain ⟨b1, b2, b3⟩ := hb
            simp only [cond_true] at h
            split at h
            · rename_i z ez
              obtain ⟨E2, c2, s2⟩ := z
              cases h
              have hc : cells + (1 + c2) ≤ R.cells := hc
              have hs : slots + (nn + s2) ≤ R.slots := hs
              refine kall_ok C hd hr hS eq b1 b2 ⟨by omega, by omega⟩ (fun ad' H' ha hr' hS' => ?_)
              refine krun_sound n d M r (E ++ [x]) lv _ E2 c2 s2 hM hp2 ez _ hpc2 ad' p e R s m args below meth cc H' locs (cells + 1) (slots + nn) Q ls C (by rw [kL_ad ha b3]; exact hl) hr' hS' (by omega) (by omega) (fun ad2 H2 l2 ls2 pc2 ha2 hr2 hS2 hd2 => ?_)
              have := kk ad2 H2 l2 ls2 pc2 (fun j hj => (ha2 j (by rw [List.length_append]; omega)).trans (ha j hj)) hr2 hS2 hd2
              rw [Nat.add_assoc, Nat.add_assoc]
              exact this
            · cases h
        · split at h
          · rename_i q eq
            obtain ⟨tgt, st'⟩ := q
            cases hb : decide (0 ≤ tgt)
            · rw [hb] at h
              cases h
            · rw [hb] at h
              simp only [cond_true] at h
              have h0 : 0 ≤ tgt := of_decide_eq_true hb
              obtain ⟨z1, z2⟩ := zto_suf M.2.2.2.2.2 tgt.toNat
              exact kjmp_ok C hd eq (fun t ht => krun_sound n d M _ E lv st' E' c s9 hM z1 h t (fun q r e9 => (z2 q r e9).trans (by omega)) ad p e R s m args below meth cc H locs cells slots Q ls C hl hr hS hc hs kk) h0
          · split at h
            · rename_i q eq
              obtain ⟨cn, as, t⟩ := q
              cases hb : ((kok E.length E && (kokl E.length t && kokL E.length lv)) && (Nat.blt 0 d && (Nat.ble t.length 6 && (Nat.ble as.length (kMt cn).2.2.1 && kKn cn))))
              · rw [hb] at h
                cases h
              · rw [hb] at h
                simp only [Bool.and_eq_true] at hb
                obtain ⟨⟨b1, b2, b3⟩, b4, b5, b6, b7⟩ := hb
                simp only [cond_true] at h
                split at h
                · rename_i z ez
                  obtain ⟨E2, c2, s2⟩ := z
                  cases hb2 : Nat.ble E.length E2.length
                  · rw [hb2] at h
                    cases h
                  · rw [hb2] at h
                    simp only [cond_true] at h
                    split at h
                    · rename_i y ey
                      obtain ⟨E3, c3, s3⟩ := y
                      cases h
                      have hc : cells + (c2 + c3) ≤ R.cells := hc
                      have hs : slots + (s2 + s3) ≤ R.slots := hs
                      have hle : E.length ≤ E2.length := Nat.le_of_ble_eq_true hb2
                      have ins3 : klen ins = 3 := by
                        unfold kcl at eq
                        split at eq
                        · rfl
                        · rfl
                        · rfl
                        · cases eq
                      have hmet : kMet g (d - 1) (kMt cn) ad E as E2 c2 s2 := kMet.intro (kKn_ok b7) (kret b7) (Nat.le_of_ble_eq_true b6) (krun_sound n (d - 1) (kMt cn) _ E (kent 0 as) [] E2 c2 s2 (kKn_ok b7) ⟨[], rfl⟩ ez 0 (kfst b7) ad)
                      refine kcl_ok C hd hl.1 hr hS eq (Nat.le_of_ble_eq_true b4) (Nat.le_of_ble_eq_true b5) ⟨by omega, by omega⟩ hmet (fun ad' H' locs' ha hr' hS' => ?_)
                      rw [← kvals_ad ha b2, ← ins3]
                      refine krun_sound n d M r E2 lv t E3 c3 s3 hM hp2 ey _ hpc2 ad' p e R s m args below meth cc H' locs' (cells + c2) (slots + s2) Q ls C (by rw [kL_ad ha b3]; exact hl) hr' hS' (by omega) (by omega) (fun ad2 H2 l2 ls2 pc2 ha2 hr2 hS2 hd2 => ?_)
                      have := kk ad2 H2 l2 ls2 pc2 (fun j hj => (ha2 j (by omega)).trans (ha j hj)) hr2 hS2 hd2
                      rw [Nat.add_assoc, Nat.add_assoc]
                      exact this
                    · cases h
                · cases h
            · split at h
              · rename_i t eq
                cases hb : (Nat.blt 0 d && Nat.ble t.length 6)
                · rw [hb] at h
                  cases h
                · rw [hb] at h
                  rw [Bool.and_eq_true] at hb
                  simp only [cond_true] at h
                  have ins3 : klen ins = 3 := by
                    unfold kobj at eq
                    split at eq
                    · rfl
                    · cases eq
                  refine kobj_ok C hd hl.1 (Nat.le_of_ble_eq_true hb.1) eq (Nat.le_of_ble_eq_true hb.2) ?_
                  rw [← ins3]
                  exact krun_sound n d M r E lv t E' c s9 hM hp2 h _ hpc2 ad p e R s m args below meth cc H locs cells slots Q ls C hl hr hS hc hs kk
              · unfold kend at h
                split at h
                · cases h
                  exact kk ad H locs ls pc0 (fun _ _ => rfl) hr hS hd
                · cases h
end
