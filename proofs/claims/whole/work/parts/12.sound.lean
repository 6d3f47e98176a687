/-! THE WALK IS SOUND: what is computed out of the code holds on the machine -/
section ZK
variable {g : zG} {d : Nat} {M : zMeth} {K : Option zV → zM → Prop} {pc : Nat} {lv : zL} {st : List zV} {μ : zM} {x y : Int}
theorem z1_e {f : Int → List zV → Prop} (h : z1 st f) : ∃ x r, st = .inl x :: r ∧ f x r := by
  unfold z1 at h
  split at h
  · exact ⟨_, _, rfl, h⟩
  · exact h.elim
theorem z2_e {f : Int → Int → List zV → Prop} (h : z2 st f) : ∃ x y r, st = .inl y :: .inl x :: r ∧ f x y r := by
  unfold z2 at h
  split at h
  · exact ⟨_, _, _, rfl, h⟩
  · exact h.elim
theorem zl1_e {f : Int → List zV → Prop} (h : zl1 st f) : ∃ x r, st = .inr (.inl x) :: r ∧ f x r := by
  unfold zl1 at h
  split at h
  · exact ⟨_, _, rfl, h⟩
  · exact h.elim
theorem zl2_e {f : Int → Int → List zV → Prop} (h : zl2 st f) : ∃ x y r, st = .inr (.inl y) :: .inr (.inl x) :: r ∧ f x y r := by
  unfold zl2 at h
  split at h
  · exact ⟨_, _, _, rfl, h⟩
  · exact h.elim
theorem zr1_e {f : zT0 → Nat → List zV → Prop} (h : zr1 st f) : ∃ t j r, st = .inr (.inr (t, j)) :: r ∧ f t j r := by
  unfold zr1 at h
  split at h
  · exact ⟨_, _, _, rfl, h⟩
  · exact h.elim
theorem zai_e {f : Int → Nat → Nat → Nat → List zV → Prop} (h : zai st f) : ∃ i t n j r, st = .inl i :: .inr (.inr ((t, n), j)) :: r ∧ f i t n j r := by
  unfold zai at h
  split at h
  · exact ⟨_, _, _, _, _, rfl, h⟩
  · exact h.elim
theorem zaii_e {f : Int → Int → Nat → Nat → Nat → List zV → Prop} (h : zaii st f) : ∃ x i t n j r, st = .inl x :: .inl i :: .inr (.inr ((t, n), j)) :: r ∧ f x i t n j r := by
  unfold zaii at h
  split at h
  · exact ⟨_, _, _, _, _, _, rfl, h⟩
  · exact h.elim
theorem zail_e {f : Int → Int → Nat → Nat → Nat → List zV → Prop} (h : zail st f) : ∃ x i t n j r, st = .inr (.inl x) :: .inl i :: .inr (.inr ((t, n), j)) :: r ∧ f x i t n j r := by
  unfold zail at h
  split at h
  · exact ⟨_, _, _, _, _, _, rfl, h⟩
  · exact h.elim
theorem zon_e {b : Bool} {P : Prop} (h : zon b P) : b = true ∧ P := by
  cases b
  · exact h.elim
  · exact ⟨rfl, h⟩
theorem zis_e {t : zT0} {a b : Nat} (h : zis t a b = true) : t = (a, b) := by
  unfold zis at h
  obtain ⟨t1, t2⟩ := t
  simp only at h
  cases h1 : Nat.beq t1 a with
  | false => rw [h1] at h; cases h
  | true =>
    rw [h1] at h
    rw [Nat.eq_of_beq_eq_true h1, Nat.eq_of_beq_eq_true h]
/-- what a program sees of an instruction at its place: its length, its numbers, its jumps, its pool's entry -/
def zchk (own nL pc : Nat) (ins : Instr) (len : Nat) : Bool := match ins with
  | .iconst n => Nat.beq len 1 && decide (-1 ≤ n ∧ n ≤ 5)
  | .bipush n => Nat.beq len 2 && decide (-128 ≤ n ∧ n ≤ 127)
  | .sipush n => Nat.beq len 3 && decide (-32768 ≤ n ∧ n ≤ 32767)
  | .ldc _ => Nat.beq len 2
  | .ldc_w _ => Nat.beq len 3
  | .ldc2_w _ => Nat.beq len 3
  | .iload _ => Nat.beq len 2
  | .lload _ => Nat.beq len 2
  | .aload _ => Nat.beq len 2
  | .istore_n n => Nat.beq len 1 && Nat.blt n nL
  | .astore_n n => Nat.beq len 1 && Nat.blt n nL
  | .istore n => Nat.beq len 2 && Nat.blt n nL
  | .astore n => Nat.beq len 2 && Nat.blt n nL
  | .lstore n => Nat.beq len 2 && Nat.blt (n + 1) nL
  | .iinc i _ => Nat.beq len 3 && Nat.blt i nL
  | .goto o => Nat.beq len 3 && decide (0 ≤ (pc : Int) + o)
  | .ifCond _ o => Nat.beq len 3 && decide (0 ≤ (pc : Int) + o)
  | .if_icmp _ o => Nat.beq len 3 && decide (0 ≤ (pc : Int) + o)
  | .tableswitch dflt lo hi offs => decide ((offs.toList.length : Int) = hi - lo + 1) && (dflt :: offs.toList).all (fun o => decide (0 ≤ (pc : Int) + o))
  | .lookupswitch dflt ps => (ps.toList.zip (ps.toList.drop 1)).all (fun (a, next) => decide (a.1 < next.1)) && (dflt :: ps.toList.map (·.2)).all (fun o => decide (0 ≤ (pc : Int) + o))
  | .getfield i => Nat.beq len 3 && (match zpe own i with
    | some (b, _, _) => Nat.ble b 1
    | none => true)
  | .putfield i => Nat.beq len 3 && (match zpe own i with
    | some (b, _, _) => Nat.ble b 1
    | none => true)
  | .getstatic _ => Nat.beq len 3
  | .invokevirtual _ => Nat.beq len 3
  | .invokestatic _ => Nat.beq len 3
  | .new _ => true
  | .invokespecial _ => true
  | .newarray _ => true
  | .anewarray _ => true
  | _ => Nat.beq len 1
/-- what the tables say of a place in a pool -/
def zPok (own idx : Nat) : zPE → Prop
  | (0, c, f) => zPf own idx 0 c f.toNat ∧ 0 ≤ f
  | (1, c, f) => zPf own idx 1 c f.toNat ∧ 0 ≤ f
  | (2, id, n) => zPi own idx id (n.toNat % 100) ∧ Cond.instanceMethod (zMt id).1 ∈ zTb ∧ Cond.selects (zMt id).1.cls (zMt id).1 (zMt id).1 ∈ zTb ∧ ∃ T N, vwCl[n.toNat / 100]? = some ((zMt id).1.cls, T, N)
  | (3, id, n) => zPi own idx id n.toNat ∧ Cond.static (zMt id).1 ∈ zTb
  | (4, _, v) => zI32 v ∧ Cond.constant (zOwn.getD own "") idx (Int32.ofInt v) ∈ zTb
  | (5, _, v) => zI64 v ∧ Cond.constantLong (zOwn.getD own "") idx (Int64.ofInt v) ∈ zTb
  | (6, 1000, _) => Cond.fieldLink (zOwn.getD own "") idx RX0 "PLACE" "[J" ∈ zTb
  | (6, _, _) => Cond.fieldLink (zOwn.getD own "") idx RX8 "PLACE" "[J" ∈ zTb
  | (7, 0, _) => zPm own idx Lib.Math.max.name Lib.Math.max.code 2
  | (7, 1, _) => zPm own idx Lib.Math.min.name Lib.Math.min.code 2
  | (7, 2, _) => zPm own idx Lib.Math.abs.name Lib.Math.abs.code 1
  | (7, 4, _) => zPn own idx
  | (7, 3, _) => zPa own idx
  | _ => True
def zPool : Prop := ∀ own idx e, zpe own idx = some e → zPok own idx e
/-- the references that stay lead to cells of their kind; those that change have such cells to choose from -/
def zLay : Prop := ∀ (c k j : Nat) (t : zT0), zSh[j]? = some (0, c) → (∀ a, zfi c k = some (.inr (.inl (t, .inl a))) → zSh[a]? = some t) ∧ (∀ o, zfi c k = some (.inr (.inl (t, .inr o))) → zSh[j + o]? = some t) ∧ ∀ l a, zfi c k = some (.inr (.inr l)) → (t, a) ∈ l → zSh[a]? = some t
def zchain : zC → Bool
  | [] => true
  | [_] => true
  | q :: q2 :: r => Nat.beq q2.1 (q.1 + q.2.2) && zchain (q2 :: r)
/-- what a program sees of a method -/
def zMchk (M : zMeth) : Bool := M.2.2.2.2.2.all (fun q => decide (decode M.2.1 q.1 = .ok (q.2.1, q.2.2)) && zchk M.2.2.2.2.1 M.2.2.1 q.1 q.2.1 q.2.2) && zchain M.2.2.2.2.2
theorem zchain_next : ∀ (C : zC) (q : Nat × Instr × Nat) (r : zC), zchain (C ++ q :: r) = true → ∀ q2 r2, r = q2 :: r2 → q2.1 = q.1 + q.2.2
  | [], q, r, h, q2, r2, e => by
    subst e
    simp only [List.nil_append, zchain, Bool.and_eq_true] at h
    exact Nat.eq_of_beq_eq_true h.1
  | [a], q, r, h, q2, r2, e => by
    simp only [List.cons_append, List.nil_append, zchain, Bool.and_eq_true] at h
    exact zchain_next [] q r h.2 q2 r2 e
  | a :: b :: C, q, r, h, q2, r2, e => by
    simp only [List.cons_append, zchain, Bool.and_eq_true] at h
    exact zchain_next (b :: C) q r h.2 q2 r2 e
theorem zto_suf : ∀ (C : zC) (n : Nat), (∃ p, C = p ++ zto C n) ∧ ∀ q r, zto C n = q :: r → q.1 = n
  | [], n => ⟨⟨[], rfl⟩, fun q r h => by cases h⟩
  | a :: C, n => by
    unfold zto
    cases h : Nat.beq a.1 n with
    | true => exact ⟨⟨[], rfl⟩, fun q r e => by cases e; exact Nat.eq_of_beq_eq_true h⟩
    | false =>
      obtain ⟨⟨p, hp⟩, h2⟩ := zto_suf C n
      exact ⟨⟨a :: p, by rw [List.cons_append, ← hp]⟩, h2⟩
theorem zfit_int {c k : Nat} {v : Int} (h : zfi c k = some (.inl 0)) (hf : zfit (0, c) (k : Int) v) : zI32 v := by
  unfold zfit at hf
  simp only [Int.toNat_natCast] at hf
  rw [← zfi_eq, h] at hf
  exact hf
theorem zfit_bool {c k n : Nat} {v : Int} (h : zfi c k = some (.inl (n + 1))) (hf : zfit (0, c) (k : Int) v) : v = 0 ∨ v = 1 := by
  unfold zfit at hf
  simp only [Int.toNat_natCast] at hf
  rw [← zfi_eq, h] at hf
  exact hf
theorem zbq {a b : Nat} (h : Nat.beq a b = true) : a = b := Nat.eq_of_beq_eq_true h
theorem zbl {a b : Nat} (h : Nat.blt a b = true) : a < b := Nat.le_of_ble_eq_true h

set_option maxHeartbeats 4000000 in
theorem zgo_sound (cf : zCf) (pf : zPool) (ly : zLay) (hM : zMchk M = true) {P r : zC} {pc len : Nat} {ins : Instr} (hc : M.2.2.2.2.2 = P ++ (pc, ins, len) :: r) {k : zC → zL → List zV → zM → Prop}
    (hk : ∀ (C : zC) (lv : zL) (st : List zV) (μ : zM), (∃ p, M.2.2.2.2.2 = p ++ C) → k C lv st μ → ∃ q r, C = q :: r ∧ zTm g d M K q.1 lv st μ)
    (h : zgo g d M K k pc ins r lv st μ) : zTm g d M K pc lv st μ := by
  have hM2 := hM
  unfold zMchk at hM2
  rw [Bool.and_eq_true] at hM2
  have hq := List.all_eq_true.mp hM2.1 (pc, ins, len) (by rw [hc]; exact List.mem_append_right _ List.mem_cons_self)
  rw [Bool.and_eq_true] at hq
  have hdec : decode M.2.1 pc = .ok (ins, len) := of_decide_eq_true hq.1
  have hck : zchk M.2.2.2.2.1 M.2.2.1 pc ins len = true := hq.2
  have next : ∀ {lv : zL} {st : List zV} {μ : zM}, k r lv st μ → zTm g d M K (pc + len) lv st μ := by
    intro lv st μ hh
    obtain ⟨q2, r2, e, hT⟩ := hk r lv st μ ⟨P ++ [(pc, ins, len)], by rw [hc]; simp⟩ hh
    have := zchain_next P (pc, ins, len) r (by rw [← hc]; exact hM2.2) q2 r2 e
    rw [this] at hT
    exact hT
  have jump : ∀ {o : Int} {lv : zL} {st : List zV} {μ : zM}, k (zto M.2.2.2.2.2 ((pc : Int) + o).toNat) lv st μ → zTm g d M K ((pc : Int) + o).toNat lv st μ := by
    intro o lv st μ hh
    obtain ⟨h1, h2⟩ := zto_suf M.2.2.2.2.2 ((pc : Int) + o).toNat
    obtain ⟨q2, r2, e, hT⟩ := hk _ lv st μ h1 hh
    rw [h2 q2 r2 e] at hT
    exact hT
  clear hk hq hM2 hM
  cases ins with
  | iconst n =>
    simp only [zchk, Bool.and_eq_true] at hck
    obtain ⟨hl, hb⟩ := hck
    obtain rfl := zbq hl
    have hb := of_decide_eq_true hb
    exact zs_iconst hdec (by unfold zI32; omega) (next h)
  | bipush n =>
    simp only [zchk, Bool.and_eq_true] at hck
    obtain ⟨hl, hb⟩ := hck
    obtain rfl := zbq hl
    exact zs_bipush hdec (of_decide_eq_true hb) (next h)
  | sipush n =>
    simp only [zchk, Bool.and_eq_true] at hck
    obtain ⟨hl, hb⟩ := hck
    obtain rfl := zbq hl
    exact zs_sipush hdec (of_decide_eq_true hb) (next h)
  | lconst n =>
    obtain rfl := zbq (by simpa [zchk] using hck)
    exact zs_lconst hdec (next h)
  | ldc i =>
    obtain rfl := zbq (by simpa [zchk] using hck)
    simp only [zgo] at h
    split at h
    · rename_i v e
      have hp := pf _ _ _ e
      exact zs_ldc hdec hp.1 hp.2 (next h)
    · exact h.elim
  | ldc_w i =>
    obtain rfl := zbq (by simpa [zchk] using hck)
    simp only [zgo] at h
    split at h
    · rename_i v e
      have hp := pf _ _ _ e
      exact zs_ldcw hdec hp.1 hp.2 (next h)
    · exact h.elim
  | ldc2_w i =>
    obtain rfl := zbq (by simpa [zchk] using hck)
    simp only [zgo] at h
    split at h
    · rename_i v e
      have hp := pf _ _ _ e
      exact zs_ldc2 hdec hp.1 hp.2 (next h)
    · exact h.elim
  | iload_n n =>
    obtain rfl := zbq (by simpa [zchk] using hck)
    simp only [zgo] at h
    split at h
    · rename_i e
      exact zs_iload_n hdec e (next h)
    · exact h.elim
  | iload n =>
    obtain rfl := zbq (by simpa [zchk] using hck)
    simp only [zgo] at h
    split at h
    · rename_i e
      exact zs_iload hdec e (next h)
    · exact h.elim
  | lload_n n =>
    obtain rfl := zbq (by simpa [zchk] using hck)
    simp only [zgo] at h
    split at h
    · rename_i e
      exact zs_lload_n hdec e (next h)
    · exact h.elim
  | lload n =>
    obtain rfl := zbq (by simpa [zchk] using hck)
    simp only [zgo] at h
    split at h
    · rename_i e
      exact zs_lload hdec e (next h)
    · exact h.elim
  | aload_n n =>
    obtain rfl := zbq (by simpa [zchk] using hck)
    simp only [zgo] at h
    split at h
    · rename_i e
      exact zs_aload_n hdec e (next h)
    · exact h.elim
  | aload n =>
    obtain rfl := zbq (by simpa [zchk] using hck)
    simp only [zgo] at h
    split at h
    · rename_i e
      exact zs_aload hdec e (next h)
    · exact h.elim
  | istore_n n =>
    simp only [zchk, Bool.and_eq_true] at hck
    obtain ⟨hl, hb⟩ := hck
    obtain rfl := zbq hl
    obtain ⟨x, st, rfl, h9⟩ := z1_e h
    replace h := h9
    clear h9
    exact zs_istore_n hdec (zbl hb) (next h)
  | istore n =>
    simp only [zchk, Bool.and_eq_true] at hck
    obtain ⟨hl, hb⟩ := hck
    obtain rfl := zbq hl
    obtain ⟨x, st, rfl, h9⟩ := z1_e h
    replace h := h9
    clear h9
    exact zs_istore hdec (zbl hb) (next h)
  | lstore n =>
    simp only [zchk, Bool.and_eq_true] at hck
    obtain ⟨hl, hb⟩ := hck
    obtain rfl := zbq hl
    obtain ⟨x, st, rfl, h9⟩ := zl1_e h
    replace h := h9
    clear h9
    exact zs_lstore hdec (zbl hb) (next h)
  | astore_n n =>
    simp only [zchk, Bool.and_eq_true] at hck
    obtain ⟨hl, hb⟩ := hck
    obtain rfl := zbq hl
    simp only [zgo] at h
    obtain ⟨t, j, st, rfl, h9⟩ := zr1_e h
    replace h := h9
    clear h9
    exact zs_astore_n hdec (zbl hb) (next h)
  | astore n =>
    simp only [zchk, Bool.and_eq_true] at hck
    obtain ⟨hl, hb⟩ := hck
    obtain rfl := zbq hl
    simp only [zgo] at h
    obtain ⟨t, j, st, rfl, h9⟩ := zr1_e h
    replace h := h9
    clear h9
    exact zs_astore hdec (zbl hb) (next h)
  | iinc i n =>
    simp only [zchk, Bool.and_eq_true] at hck
    obtain ⟨hl, hb⟩ := hck
    obtain rfl := zbq hl
    simp only [zgo] at h
    split at h
    · rename_i e
      exact zs_iinc hdec (zbl hb) e (next h)
    · exact h.elim
  | iadd =>
    obtain rfl := zbq (by simpa [zchk] using hck)
    obtain ⟨x, y, st, rfl, h9⟩ := z2_e h
    replace h := h9
    clear h9
    exact zs_iadd hdec (next h)
  | isub =>
    obtain rfl := zbq (by simpa [zchk] using hck)
    obtain ⟨x, y, st, rfl, h9⟩ := z2_e h
    replace h := h9
    clear h9
    exact zs_isub hdec (next h)
  | imul =>
    obtain rfl := zbq (by simpa [zchk] using hck)
    obtain ⟨x, y, st, rfl, h9⟩ := z2_e h
    replace h := h9
    clear h9
    exact zs_imul hdec (next h)
  | iand =>
    obtain rfl := zbq (by simpa [zchk] using hck)
    obtain ⟨x, y, st, rfl, h9⟩ := z2_e h
    replace h := h9
    clear h9
    exact zs_iand hdec (next h)
  | ior =>
    obtain rfl := zbq (by simpa [zchk] using hck)
    obtain ⟨x, y, st, rfl, h9⟩ := z2_e h
    replace h := h9
    clear h9
    exact zs_ior hdec (next h)
  | ixor =>
    obtain rfl := zbq (by simpa [zchk] using hck)
    obtain ⟨x, y, st, rfl, h9⟩ := z2_e h
    replace h := h9
    clear h9
    exact zs_ixor hdec (next h)
  | ishl =>
    obtain rfl := zbq (by simpa [zchk] using hck)
    obtain ⟨x, y, st, rfl, h9⟩ := z2_e h
    replace h := h9
    clear h9
    exact zs_ishl hdec (next h)
  | ishr =>
    obtain rfl := zbq (by simpa [zchk] using hck)
    obtain ⟨x, y, st, rfl, h9⟩ := z2_e h
    replace h := h9
    clear h9
    exact zs_ishr hdec (next h)
  | iushr =>
    obtain rfl := zbq (by simpa [zchk] using hck)
    obtain ⟨x, y, st, rfl, h9⟩ := z2_e h
    replace h := h9
    clear h9
    exact zs_iushr hdec (next h)
  | idiv =>
    obtain rfl := zbq (by simpa [zchk] using hck)
    obtain ⟨x, y, st, rfl, h9⟩ := z2_e h
    replace h := h9
    clear h9
    exact zs_idiv hdec h.1 (next h.2)
  | ineg =>
    obtain rfl := zbq (by simpa [zchk] using hck)
    obtain ⟨x, st, rfl, h9⟩ := z1_e h
    replace h := h9
    clear h9
    exact zs_ineg hdec (next h)
  | i2b =>
    obtain rfl := zbq (by simpa [zchk] using hck)
    obtain ⟨x, st, rfl, h9⟩ := z1_e h
    replace h := h9
    clear h9
    exact zs_i2b hdec (next h)
  | i2s =>
    obtain rfl := zbq (by simpa [zchk] using hck)
    obtain ⟨x, st, rfl, h9⟩ := z1_e h
    replace h := h9
    clear h9
    exact zs_i2s hdec (next h)
  | i2c =>
    obtain rfl := zbq (by simpa [zchk] using hck)
    obtain ⟨x, st, rfl, h9⟩ := z1_e h
    replace h := h9
    clear h9
    exact zs_i2c hdec (next h)
  | i2l =>
    obtain rfl := zbq (by simpa [zchk] using hck)
    obtain ⟨x, st, rfl, h9⟩ := z1_e h
    replace h := h9
    clear h9
    exact zs_i2l hdec (next h)
  | l2i =>
    obtain rfl := zbq (by simpa [zchk] using hck)
    obtain ⟨x, st, rfl, h9⟩ := zl1_e h
    replace h := h9
    clear h9
    exact zs_l2i hdec (next h)
  | ladd =>
    obtain rfl := zbq (by simpa [zchk] using hck)
    obtain ⟨x, y, st, rfl, h9⟩ := zl2_e h
    replace h := h9
    clear h9
    exact zs_ladd hdec (next h)
  | lsub =>
    obtain rfl := zbq (by simpa [zchk] using hck)
    obtain ⟨x, y, st, rfl, h9⟩ := zl2_e h
    replace h := h9
    clear h9
    exact zs_lsub hdec (next h)
  | lmul =>
    obtain rfl := zbq (by simpa [zchk] using hck)
    obtain ⟨x, y, st, rfl, h9⟩ := zl2_e h
    replace h := h9
    clear h9
    exact zs_lmul hdec (next h)
  | lcmp =>
    obtain rfl := zbq (by simpa [zchk] using hck)
    obtain ⟨x, y, st, rfl, h9⟩ := zl2_e h
    replace h := h9
    clear h9
    exact zs_lcmp hdec (next h)
  | ldiv =>
    obtain rfl := zbq (by simpa [zchk] using hck)
    obtain ⟨x, y, st, rfl, h9⟩ := zl2_e h
    replace h := h9
    clear h9
    exact zs_ldiv hdec h.1 (next h.2)
  | lrem =>
    obtain rfl := zbq (by simpa [zchk] using hck)
    obtain ⟨x, y, st, rfl, h9⟩ := zl2_e h
    replace h := h9
    clear h9
    exact zs_lrem hdec h.1 (next h.2)
  | dup =>
    obtain rfl := zbq (by simpa [zchk] using hck)
    simp only [zgo] at h
    split at h
    · exact zs_dup hdec rfl (next h)
    · exact zs_dup hdec rfl (next h)
    · exact h.elim
  | dup_x1 =>
    obtain rfl := zbq (by simpa [zchk] using hck)
    simp only [zgo] at h
    split at h
    · exact zs_dup_x1 hdec rfl rfl (next h)
    · exact h.elim
  | dup2 =>
    obtain rfl := zbq (by simpa [zchk] using hck)
    simp only [zgo] at h
    split at h
    · exact zs_dup2 hdec rfl rfl (next h)
    · exact h.elim
  | pop =>
    obtain rfl := zbq (by simpa [zchk] using hck)
    simp only [zgo] at h
    split at h
    · exact zs_pop hdec rfl (next h)
    · exact h.elim
  | goto o =>
    simp only [zchk, Bool.and_eq_true] at hck
    obtain ⟨hl, hb⟩ := hck
    obtain rfl := zbq hl
    have hb := of_decide_eq_true hb
    exact zs_goto hdec (by omega) (jump h)
  | ifCond c o =>
    simp only [zchk, Bool.and_eq_true] at hck
    obtain ⟨hl, hb⟩ := hck
    obtain rfl := zbq hl
    have hb := of_decide_eq_true hb
    have ht : (pc : Int) + o = ((((pc : Int) + o).toNat : Nat) : Int) := by omega
    obtain ⟨x, st, rfl, h9⟩ := z1_e h
    replace h := h9
    clear h9
    refine zs_if hdec ht ?_
    cases c <;> exact ⟨fun q => jump (h.1 q), fun q => next (h.2 q)⟩
  | if_icmp c o =>
    simp only [zchk, Bool.and_eq_true] at hck
    obtain ⟨hl, hb⟩ := hck
    obtain rfl := zbq hl
    have hb := of_decide_eq_true hb
    have ht : (pc : Int) + o = ((((pc : Int) + o).toNat : Nat) : Int) := by omega
    obtain ⟨x, y, st, rfl, h9⟩ := z2_e h
    replace h := h9
    clear h9
    refine zs_icmp hdec ht ?_
    cases c <;> exact ⟨fun q => jump (h.1 q), fun q => next (h.2 q)⟩
  | tableswitch dflt lo hi offs =>
    simp only [zchk, Bool.and_eq_true] at hck
    obtain ⟨x, st, rfl, h9⟩ := z1_e h
    replace h := h9
    clear h9
    refine zs_tab hdec (of_decide_eq_true hck.1) (fun o ho => of_decide_eq_true (List.all_eq_true.mp hck.2 o ho)) (fun q => jump (h.1 q)) ?_
    have key : ∀ (os : List Int) (v : Int), ztab x (fun o => k (zto M.2.2.2.2.2 ((pc : Int) + o).toNat) lv st μ) v os → ztab x (fun o => zTm g d M K ((pc : Int) + o).toNat lv st μ) v os := by
      intro os
      induction os with
      | nil => intro v _; trivial
      | cons a l ih => intro v hh; exact ⟨fun q => jump (hh.1 q), ih (v + 1) hh.2⟩
    exact key _ _ h.2
  | lookupswitch dflt ps =>
    simp only [zchk, Bool.and_eq_true] at hck
    obtain ⟨x, st, rfl, h9⟩ := z1_e h
    replace h := h9
    clear h9
    refine zs_lsw hdec hck.1 (fun o ho => of_decide_eq_true (List.all_eq_true.mp hck.2 o ho)) ?_
    have key : ∀ (os : List (Int × Int)), zlsw x (fun o => k (zto M.2.2.2.2.2 ((pc : Int) + o).toNat) lv st μ) dflt os → zlsw x (fun o => zTm g d M K ((pc : Int) + o).toNat lv st μ) dflt os := by
      intro os
      induction os with
      | nil => intro hh; exact jump hh
      | cons a l ih => intro hh; exact ⟨fun q => jump (hh.1 q), fun q => ih (hh.2 q)⟩
    exact key _ h
  | getfield i =>
    simp only [zchk, Bool.and_eq_true] at hck
    obtain ⟨hl, hb⟩ := hck
    obtain rfl := zbq hl
    simp only [zgo] at h
    split at h
    · rename_i b c f e
      rw [e] at hb
      have hp := pf _ _ _ e
      have hb := Nat.le_of_ble_eq_true hb
      have hp2 : ∃ b, zPf M.2.2.2.2.1 i b c f.toNat ∧ 0 ≤ f := by
        match b, hb, hp with
        | 0, _, hp => exact ⟨0, hp⟩
        | 1, _, hp => exact ⟨1, hp⟩
      obtain ⟨b, hp2, hf⟩ := hp2
      have hfk : f = ((f.toNat : Nat) : Int) := by omega
      obtain ⟨t, j, st, rfl, h9⟩ := zr1_e h
      replace h := h9
      clear h9
      obtain ⟨h1, h9⟩ := zon_e h
      replace h := h9
      clear h9
      obtain rfl := zis_e h1
      have hlen : zSh[j]? = some (0, c) → zMok μ → zfit (0, c) f (μ j f) := fun q hm => by
        obtain ⟨_, _, N, _, hk1, hk2, _⟩ := hp2
        exact hm j (0, c) f q hf (fun _ => by rw [hk2]; exact hk1) (fun z => absurd rfl z)
      split at h
      · rename_i n e2
        refine zs_getfield (v := .inl (μ j f)) cf hdec hp2 e2 (by show Value.int _ = Value.int _; rw [← hfk]) (fun hm hs => ?_) (next h)
        have hft := hlen hs hm
        rw [hfk] at hft
        cases n with
        | zero => have := zfit_int e2 hft; rw [← hfk] at this; exact this
        | succ n => have := zfit_bool e2 hft; rw [← hfk] at this; show zI32 _; unfold zI32; omega
      · rename_i t2 a e2
        exact zs_getfield (v := .inr (.inr (t2, a))) cf hdec hp2 e2 rfl (fun hm hs => Or.inl ((ly c f.toNat j t2 hs).1 a e2)) (next h)
      · rename_i t2 a e2
        exact zs_getfield (v := .inr (.inr (t2, j + a))) cf hdec hp2 e2 rfl (fun hm hs => Or.inl ((ly c f.toNat j t2 hs).2.1 a e2)) (next h)
      · rename_i l e2
        have key : ∀ l2 : List (zT0 × Nat), zalts (μ j f) (fun t2 a => k r lv (.inr (.inr (t2, a)) :: st) μ) l2 → ∃ q ∈ l2, μ j f = (q.2 : Int) ∧ k r lv (.inr (.inr q) :: st) μ := by
          intro l2
          induction l2 with
          | nil => intro hh; exact hh.elim
          | cons q l2 ih =>
            intro hh
            rcases hh with hh | hh
            · exact ⟨q, List.mem_cons_self, hh.1, hh.2⟩
            · obtain ⟨q2, m1, m2⟩ := ih hh
              exact ⟨q2, List.mem_cons_of_mem _ m1, m2⟩
        obtain ⟨q, m1, m2, m3⟩ := key l h
        refine zs_getfield (v := .inr (.inr q)) cf hdec hp2 e2 ?_ (fun hm hs => Or.inl ((ly c f.toNat j q.1 hs).2.2 l q.2 e2 m1)) (next m3)
        show Value.ref (zad g q.2) = if μ j ((f.toNat : Nat) : Int) < 0 then Value.null else Value.ref (zad g (μ j ((f.toNat : Nat) : Int)).toNat)
        rw [← hfk, m2, if_neg (by omega), Int.toNat_natCast]
      · exact h.elim
    · exact h.elim
  | putfield i =>
    simp only [zchk, Bool.and_eq_true] at hck
    obtain ⟨hl, hb⟩ := hck
    obtain rfl := zbq hl
    simp only [zgo] at h
    split at h
    · rename_i b c f e
      rw [e] at hb
      have hp := pf _ _ _ e
      have hb := Nat.le_of_ble_eq_true hb
      have hp2 : ∃ b, zPf M.2.2.2.2.1 i b c f.toNat ∧ 0 ≤ f := by
        match b, hb, hp with
        | 0, _, hp => exact ⟨0, hp⟩
        | 1, _, hp => exact ⟨1, hp⟩
      obtain ⟨b, hp2, hf⟩ := hp2
      have hfk : f = ((f.toNat : Nat) : Int) := by omega
      split at h
      · rename_i x q1 j st
        obtain ⟨h1, h9⟩ := zon_e h
        replace h := h9
        clear h9
        obtain rfl := zis_e h1
        split at h
        · rename_i e2
          refine zs_putfield (x := x) (v := .inl x) (ty := .int) cf hfk hdec hp2 e2 (fun m9 hm9 => by show Value.int _ = Value.int _; rw [hm9]) (fun hz => ?_) (fun C T N hc9 hp9 => ?_) rfl rfl (next h)
          · unfold zfit
            simp only
            rw [← zfi_eq, e2]
            exact hz
          · obtain ⟨C9, T9, N9, g1, g2, g3, g4, g5, g6⟩ := hp9
            rw [hc9] at g1; cases g1
            exact g5 e2
        · rename_i n hn0 e2
          obtain ⟨hx, h⟩ := h
          have hn1 : n = 1 := by
            obtain ⟨C9, T9, N9, g1, g2, g3, g4, g5, g6, g7, g8⟩ := hp2
            have := g8 n e2
            rcases n with _ | _ | n
            · exact (hn0 rfl).elim
            · rfl
            · omega
          subst hn1
          refine zs_putfield (x := x) (v := .inl x) (ty := .boolean) cf hfk hdec hp2 e2 (fun m9 hm9 => by show Value.int _ = Value.int _; rw [hm9]) (fun hz => ?_) (fun C T N hc9 hp9 => ?_) ?_ ?_ (next h)
          · unfold zfit
            simp only
            rw [← zfi_eq, e2]
            exact hx
          · obtain ⟨C9, T9, N9, g1, g2, g3, g4, g5, g6, g7⟩ := hp9
            rw [hc9] at g1; cases g1
            exact g6 e2
          · rcases hx with rfl | rfl <;> rfl
          · rcases hx with rfl | rfl <;> rfl
        · exact h.elim
      · rename_i w1 w2 q1 j st
        obtain ⟨h1, h9⟩ := zon_e h
        replace h := h9
        clear h9
        obtain rfl := zis_e h1
        split at h
        · rename_i l e2
          obtain ⟨h2, h9⟩ := zon_e h
          replace h := h9
          clear h9
          have hv9 : ∀ m9 : Int → Int, m9 ((f.toNat : Nat) : Int) = (w2 : Int) → zFv g j m9 f.toNat (.inr (.inr l)) = zR g (.inr (.inr (w1, w2))) := by
            intro m9 hm9
            show (if m9 ((f.toNat : Nat) : Int) < 0 then Value.null else Value.ref (zad g (m9 ((f.toNat : Nat) : Int)).toNat)) = Value.ref (zad g w2)
            rw [hm9, if_neg (by omega), Int.toNat_natCast]
          have hfit9 : zok (.inr (.inr (w1, w2))) → zfit (0, c) f (w2 : Int) := by
            intro _
            unfold zfit
            simp only
            rw [← zfi_eq, e2]
            trivial
          have hp3 := hp2
          obtain ⟨C9, T9, N9, g1, g2, g3, g4, g5, g6, g7⟩ := hp3
          obtain ⟨g8 | g8, g9⟩ := g7.1 l e2
          · exact zs_putfield (x := (w2 : Int)) (v := .inr (.inr (w1, w2))) (ty := .array .int) cf hfk hdec hp2 e2 hv9 hfit9 (fun C T N hc9 hp9 => by rw [g1] at hc9; cases hc9; exact ⟨g8, g9⟩) rfl rfl (next h)
          · exact zs_putfield (x := (w2 : Int)) (v := .inr (.inr (w1, w2))) (ty := .array .byte) cf hfk hdec hp2 e2 hv9 hfit9 (fun C T N hc9 hp9 => by rw [g1] at hc9; cases hc9; exact ⟨g8, g9⟩) rfl rfl (next h)
        · exact h.elim
      · exact h.elim
    · exact h.elim
  | getstatic i =>
    obtain rfl := zbq (by simpa [zchk] using hck)
    simp only [zgo] at h
    split at h
    · rename_i e
      exact zs_stat0 hdec (pf _ _ _ e) (next h)
    · rename_i a b hne e
      have hp := pf _ _ _ e
      simp only [zPok] at hp
      exact zs_stat1 hdec hp (next h)
    · exact h.elim
  | iaload =>
    obtain rfl := zbq (by simpa [zchk] using hck)
    simp only [zgo] at h
    obtain ⟨i, t1, t2, j, st, rfl, h9⟩ := zai_e h
    replace h := h9
    clear h9
    obtain ⟨h1, h2, h9⟩ := zon_e h
    replace h := h9
    clear h9
    obtain rfl : t1 = 1 := zbq h1
    exact zs_iaload hdec h2 (next h)
  | baload =>
    obtain rfl := zbq (by simpa [zchk] using hck)
    simp only [zgo] at h
    obtain ⟨i, t1, t2, j, st, rfl, h9⟩ := zai_e h
    replace h := h9
    clear h9
    obtain ⟨h1, h2, h9⟩ := zon_e h
    replace h := h9
    clear h9
    rcases (Bool.or_eq_true _ _).mp h1 with h1 | h1
    · obtain rfl : t1 = 2 := zbq h1
      exact zs_baload2 hdec h2 (next h)
    · obtain rfl : t1 = 3 := zbq h1
      exact zs_baload3 hdec h2 (next h)
  | laload =>
    obtain rfl := zbq (by simpa [zchk] using hck)
    simp only [zgo] at h
    obtain ⟨i, t1, t2, j, st, rfl, h9⟩ := zai_e h
    clear h
    split at h9
    · exact zs_laload4 hdec h9.1 (next h9.2)
    · exact zs_laload6 hdec h9.1 (next h9.2)
    · exact h9.elim
  | aaload =>
    obtain rfl := zbq (by simpa [zchk] using hck)
    simp only [zgo] at h
    obtain ⟨i, t1, t2, j, st, rfl, h9⟩ := zai_e h
    replace h := h9
    clear h9
    obtain ⟨h1, h2, h9⟩ := zon_e h
    replace h := h9
    clear h9
    obtain rfl : t1 = 5 := zbq h1
    exact zs_aaload hdec h2 (next h)
  | iastore =>
    obtain rfl := zbq (by simpa [zchk] using hck)
    simp only [zgo] at h
    obtain ⟨x, i, t1, t2, j, st, rfl, h9⟩ := zaii_e h
    replace h := h9
    clear h9
    obtain ⟨h1, h2, h9⟩ := zon_e h
    replace h := h9
    clear h9
    obtain rfl : t1 = 1 := zbq h1
    exact zs_iastore hdec h2 (next h)
  | bastore =>
    obtain rfl := zbq (by simpa [zchk] using hck)
    simp only [zgo] at h
    obtain ⟨x, i, t1, t2, j, st, rfl, h9⟩ := zaii_e h
    clear h
    split at h9
    · exact zs_bastore2 hdec h9.1 h9.2.1 (next h9.2.2)
    · exact zs_bastore3 hdec h9.1 h9.2.1 (next h9.2.2)
    · exact h9.elim
  | lastore =>
    obtain rfl := zbq (by simpa [zchk] using hck)
    simp only [zgo] at h
    obtain ⟨x, i, t1, t2, j, st, rfl, h9⟩ := zail_e h
    replace h := h9
    clear h9
    obtain ⟨h1, h2, h9⟩ := zon_e h
    replace h := h9
    clear h9
    obtain rfl : t1 = 4 := zbq h1
    exact zs_lastore hdec h2 (next h)
  | arraylength =>
    obtain rfl := zbq (by simpa [zchk] using hck)
    simp only [zgo] at h
    obtain ⟨t, j, st, rfl, h9⟩ := zr1_e h
    replace h := h9
    clear h9
    obtain ⟨h1, h9⟩ := zon_e h
    replace h := h9
    clear h9
    obtain ⟨t1, t2⟩ := t
    rcases (Bool.or_eq_true _ _).mp h1 with h1 | h1
    · obtain rfl : t1 = 1 := zbq h1
      exact zs_alen1 hdec (next h)
    · obtain rfl : t1 = 4 := zbq h1
      exact zs_alen4 hdec (next h)
  | invokevirtual i =>
    obtain rfl := zbq (by simpa [zchk] using hck)
    simp only [zgo] at h
    split at h
    · rename_i id n e
      have hp := pf _ _ _ e
      split at h
      · rename_i q as rest e2
        obtain ⟨h1, h0, h9⟩ := zon_e h
        replace h := h9
        clear h9
        rw [Bool.and_eq_true] at h1
        obtain ⟨l, l1, l2, l3⟩ := zpop_spec _ _ _ _ _ e2
        rw [List.append_nil] at l2
        subst l2
        exact zs_callV (zis_e h1.1) hdec hp.1 hp.2 (by simpa using l1) (by rw [l3]; simp) (Nat.le_of_ble_eq_true h1.2) h0 ((Or.elim h (fun z => z) (fun z => z.elim) : zCal0 _ _ _ _ _ _).imp (fun v μ9 h9 => next h9))
      · exact h.elim
    · exact h.elim
  | invokestatic i =>
    obtain rfl := zbq (by simpa [zchk] using hck)
    simp only [zgo] at h
    split at h
    · rename_i id n e
      have hp := pf _ _ _ e
      split at h
      · rename_i as rest e2
        obtain ⟨h1, h0, h9⟩ := zon_e h
        replace h := h9
        clear h9
        obtain ⟨l, l1, l2, l3⟩ := zpop_spec _ _ _ _ _ e2
        rw [List.append_nil] at l2
        subst l2
        exact zs_callS hdec hp.1 hp.2 l1 l3 (Nat.le_of_ble_eq_true h1) h0 ((Or.elim h (fun z => z) (fun z => z.elim) : zCal0 _ _ _ _ _ _).imp (fun v μ9 h9 => next h9))
      · exact h.elim
    · rename_i e
      obtain ⟨x, y, st, rfl, h9⟩ := z2_e h
      replace h := h9
      clear h9
      obtain ⟨h1, h0, h9⟩ := zon_e h
      replace h := h9
      clear h9
      exact zs_max hdec (pf _ _ _ e) (Nat.le_of_ble_eq_true h1) h0 (next h)
    · rename_i e
      obtain ⟨x, y, st, rfl, h9⟩ := z2_e h
      replace h := h9
      clear h9
      obtain ⟨h1, h0, h9⟩ := zon_e h
      replace h := h9
      clear h9
      exact zs_min hdec (pf _ _ _ e) (Nat.le_of_ble_eq_true h1) h0 (next h)
    · rename_i e
      obtain ⟨x, st, rfl, h9⟩ := z1_e h
      replace h := h9
      clear h9
      obtain ⟨h1, h0, h9⟩ := zon_e h
      replace h := h9
      clear h9
      exact zs_abs hdec (pf _ _ _ e) (Nat.le_of_ble_eq_true h1) h0 (next h)
    · rename_i e
      obtain ⟨x, y, st, rfl, h9⟩ := zl2_e h
      replace h := h9
      clear h9
      obtain ⟨h1, h0, h9⟩ := zon_e h
      replace h := h9
      clear h9
      exact zs_minL hdec (pf _ _ _ e) (Nat.le_of_ble_eq_true h1) h0 (next h)
    · rename_i e
      split at h
      · rename_i n dp k1 m1 j sp k2 m2 j' st
        obtain ⟨h1, h0, h2, h3, h9⟩ := zon_e h
        replace h := h9
        clear h9
        rw [Bool.and_eq_true, Bool.or_eq_true, Bool.and_eq_true, Bool.and_eq_true] at h1
        rcases h1.2 with h4 | h4
        · obtain rfl : k1 = 1 := zbq h4.1
          obtain rfl : k2 = 1 := zbq h4.2
          exact zs_copy (Or.inl rfl) hdec (pf _ _ _ e) (Nat.le_of_ble_eq_true h1.1) h0 h2 h3 (next h)
        · obtain rfl : k1 = 4 := zbq h4.1
          obtain rfl : k2 = 4 := zbq h4.2
          exact zs_copy (Or.inr rfl) hdec (pf _ _ _ e) (Nat.le_of_ble_eq_true h1.1) h0 h2 h3 (next h)
      · exact h.elim
    · exact h.elim
  | ireturn =>
    obtain rfl := zbq (by simpa [zchk] using hck)
    simp only [zgo] at h
    split at h
    · rename_i x er
      intro p e R s m args below meth c H locs cells slots Q ls C hl hs hv hr hS hret
      exact hret (some (.inl x)) μ H locs ls pc hr hS (fun z hz => by cases hz; exact zokh hs) h ⟨hdec, Or.inl er⟩
    · rename_i x er
      intro p e R s m args below meth c H locs cells slots Q ls C hl hs hv hr hS hret
      exact hret (some (.inl x)) μ H locs ls pc hr hS (fun z hz => by cases hz; exact zokh hs) h.2 ⟨hdec, Or.inr ⟨er, h.1⟩⟩
    · exact h.elim
  | lreturn =>
    obtain rfl := zbq (by simpa [zchk] using hck)
    simp only [zgo] at h
    split at h
    · rename_i x er
      intro p e R s m args below meth c H locs cells slots Q ls C hl hs hv hr hS hret
      exact hret (some (.inr (.inl x))) μ H locs ls pc hr hS (fun z hz => by cases hz; exact zokh hs) h ⟨hdec, er⟩
    · exact h.elim
  | return_ =>
    obtain rfl := zbq (by simpa [zchk] using hck)
    simp only [zgo] at h
    split at h
    · rename_i er
      intro p e R s m args below meth c H locs cells slots Q ls C hl hs hv hr hS hret
      exact hret none μ H locs ls pc hr hS (fun z hz => by cases hz) h ⟨hdec, er⟩
    · exact h.elim
  | _ => exact (show False from h).elim
end ZK
