/-! WHAT THE FRAME MEANS on the machine -/
/-- the launch; class numbers and slots of vwCl; the classes of my arrays; where my cells lie; how many cells there were -/
abbrev zG : Type := Launch × (Nat → ClassId) × (Nat → Nat → Nat) × (Nat → ClassId) × (Nat → Nat) × Nat
abbrev zD (g : zG) : va_G := (g.2.1, g.2.2.1)
abbrev zcA (g : zG) : Nat → ClassId := g.2.2.2.1
abbrev zad (g : zG) : Nat → Nat := g.2.2.2.2.1
def zA (g : zG) : Nat → Prop := fun q => g.2.2.2.2.2 ≤ q
def zR (g : zG) : zV → Value
  | .inl x => .int (Int32.ofInt x)
  | .inr (.inl x) => .long (Int64.ofInt x)
  | .inr (.inr q) => .ref (zad g q.2)
def zok : zV → Prop
  | .inl x => zI32 x
  | .inr (.inl x) => zI64 x
  | .inr (.inr q) => zSh[q.2]? = some q.1 ∨ q = ((6, 6), 1000) ∨ q = ((6, 8), 1001)
def zFv (g : zG) (j : Nat) (m : Int → Int) (k : Nat) : zFI → Value
  | .inl _ => .int (Int32.ofInt (m k))
  | .inr (.inl (_, .inl a)) => .ref (zad g a)
  | .inr (.inl (_, .inr o)) => .ref (zad g (j + o))
  | .inr (.inr _) => if m k < 0 then .null else .ref (zad g (m k).toNat)
def zFs (g : zG) (j : Nat) (m : Int → Int) : Nat → List zFI → List Value
  | _, [] => []
  | k, fi :: l => zFv g j m k fi :: zFs g j m (k + 1) l
def zE (g : zG) (j : Nat) (t : zT0) (m : Int → Int) : va_E := match t.1 with
  | 0 => .inr (t.2, zFs g j m 0 (zFl.getD t.2 []))
  | 1 => .inl (zcA g 0, t.2, .inl (fun i => Int32.ofInt (m i)))
  | 2 => .inl (zcA g 1, t.2, .inl (fun i => Int32.ofInt (m i)))
  | 3 => .inl (zcA g 2, t.2, .inl (fun i => Int32.ofInt (m i)))
  | 4 => .inl (zcA g 3, t.2, .inr (.inl (fun i => Int64.ofInt (m i))))
  | _ => .inl (zcA g 4, t.2, .inr (.inr (.inr (.inr (fun i => some (zad g (zBs j + 5 * i)))))))
def zWs (g : zG) (μ : zM) : Nat → List zT0 → va_W
  | _, [] => []
  | k, t :: l => (zad g k, zE g k t (μ k)) :: zWs g μ (k + 1) l
def zW (g : zG) (μ : zM) : va_W := zWs g μ 0 zSh
/-- what a number at that place may be -/
def zfit (t : zT0) (i : Int) (v : Int) : Prop := match t.1 with
  | 0 => match (zFl.getD t.2 [])[i.toNat]? with
    | some (.inl 0) => zI32 v
    | some (.inl _) => v = 0 ∨ v = 1
    | _ => True
  | 1 => zI32 v
  | 2 => v = 0 ∨ v = 1
  | 3 => -128 ≤ v ∧ v ≤ 127
  | 4 => zI64 v
  | _ => True
def zMok (μ : zM) : Prop := ∀ (j : Nat) (t : zT0) (i : Int), zSh[j]? = some t → 0 ≤ i → (t.1 = 0 → i.toNat < (zFl.getD t.2 []).length) → (¬ t.1 = 0 → i < t.2) → zfit t i (μ j i)
def zRel (g : zG) (μ : zM) (H : Heap) : Prop := va_P (zD g) vwCl (zW g μ) H ∧ zMok μ
def zTy (g : zG) : List (ClassId × FieldType) := [(zcA g 0, .int), (zcA g 1, .boolean), (zcA g 2, .byte), (zcA g 3, .long), (zcA g 4, .object RX7)]
/-- the constant rows of longs -/
def zRT (g : zG) (U : State) (H : Heap) : Prop := va_T .long (zad g 1000) 6 (fun i => .long (Int64.ofInt (zRo 1000 (i : Int)))) (zA g) U H ∧ va_T .long (zad g 1001) 8 (fun i => .long (Int64.ofInt (zRo 1001 (i : Int)))) (zA g) U H
def zAd (g : zG) : Prop := (∀ i j : Nat, i < 177 → j < 177 → zad g i = zad g j → i = j) ∧ (∀ i : Nat, i < 177 → zA g (zad g i)) ∧ ¬ zA g (zad g 1000) ∧ ¬ zA g (zad g 1001)
def zNst : Cond → Bool
  | .fieldLinkNest _ _ _ _ _ _ => true
  | _ => false
/-- the words of nest mates' fields -/
def zNw : List Cond := lw_tbl.filter zNst
/-- the constant texts: the letters of the rule with what they hold, and what is thrown with -/
def zSr (g : zG) (U : State) : Prop := vk_R RX6 73 "lcvdsnbh" (zad g 1002) U ∧ vk_R RX11 188 "no such engine" (zad g 1003) U ∧ vk_R RX11 213 "nothing of that number is told of an engine" (zad g 1004) U ∧ vk_R RX11 389 "the row has no such number" (zad g 1005) U ∧ vk_S 1 [8] [[108, 99, 118, 100, 115, 110, 98, 104]] (fun _ => zad g 1002) (fun _ => zad g 1006) (zA g) U U.heap ∧ va_Z "java/lang/String" "COMPACT_STRINGS" "Z" (.int 1) (zA g) U U.heap
def zSt (g : zG) (U : State) : Prop := va_K (zD g) vwCl (zTy g) U ∧ zAd g ∧ va_Z RX0 "PLACE" "[J" (.ref (zad g 1000)) (zA g) U U.heap ∧ va_Z RX8 "PLACE" "[J" (.ref (zad g 1001)) (zA g) U U.heap ∧ zRT g U U.heap ∧ (∀ w ∈ zNw, va_Nw w U) ∧ zSr g U
def zTb : List Cond := lw_tbl.filter goodWord
def zCx (g : zG) (d : Nat) (M : zMeth) (p : Program) (R : Room) (s : State) (m : MethodId) (args : Array Value) (c : Code) (cells slots : Nat) : Prop :=
  p.tables.exec = Jvm.exec ∧ c.code = M.2.1 ∧ c.maxLocals = M.2.2.1 ∧ s.vm.findClass (zOwn.getD M.2.2.2.2.1 "") = some m.cls ∧ (∀ w ∈ zTb, w.before args s = true) ∧ zSt g s ∧ d ≤ R.frames ∧ 64 * d ≤ R.locals ∧ cells ≤ R.cells ∧ slots ≤ R.slots
def zHas (g : zG) (ls : Array Slot) (nL : Nat) (lv : zL) : Prop := ls.size = nL ∧ lv_wf ls ∧ ∀ (i : Nat) (v : zV), zget lv i = some v → ls[i]? = some (.val (zR g v))
def zret (M : zMeth) (pc : Nat) : Option zV → Prop
  | none => decode M.2.1 pc = .ok (.return_, 1) ∧ M.2.2.2.1 = none
  | some (.inl x) => decode M.2.1 pc = .ok (.ireturn, 1) ∧ (M.2.2.2.1 = some .int ∨ M.2.2.2.1 = some .boolean ∧ (x = 0 ∨ x = 1))
  | some (.inr (.inl _)) => decode M.2.1 pc = .ok (.lreturn, 1) ∧ M.2.2.2.1 = some .long
  | _ => False
def zokO (v : Option zV) : Prop := ∀ x, v = some x → zok x
/-- from this place of the method's code, with these locals and this stack, it comes to a return with K -/
def zTm (g : zG) (d : Nat) (M : zMeth) (K : Option zV → zM → Prop) (pc : Nat) (lv : zL) (st : List zV) (μ : zM) : Prop :=
  ∀ (p : Program) (e : Env) (R : Room) (s : State) (m : MethodId) (args : Array Value) (below : List Frame) (meth : Method) (c : Code) (H : Heap) (locs : List Loc) (cells slots : Nat) (Q : State → Prop) (ls : Array Slot),
    zCx g d M p R s m args c cells slots → zHas g ls M.2.2.1 lv → (∀ v ∈ st, zok v) → (∀ (i : Nat) (v : zV), zget lv i = some v → zok v) → zRel g μ H → va_S (zA g) s.heap H locs →
    (∀ (v : Option zV) (μ' : zM) (H' : Heap) (locs' : List Loc) (ls' : Array Slot) (pc' : Nat), zRel g μ' H' → va_S (zA g) s.heap H' locs' → zokO v → K v μ' → zret M pc' v → W p g.1 e R s m args below meth c H' locs' cells slots Q (F0 m pc' ls' (v.toList.map (zR g)))) →
    W p g.1 e R s m args below meth c H locs cells slots Q (F0 m pc ls (st.map (zR g)))
def zws (M : zMeth) : List Cond := Cond.code M.1 M.2.1 M.2.2.1 M.2.2.2.1 :: zTb
def zrm (d : Nat) : Room := { frames := d, cells := 0, slots := 0, locals := 64 * d }
def zPc (g : zG) (av : List zV) (μ : zM) : Array Value → State → Prop := fun a U => a = (av.map (zR g)).toArray ∧ (∀ v ∈ av, zok v) ∧ zRel g μ U.heap ∧ zSt g U
def zQc (g : zG) (K : Option zV → zM → Prop) : Array Value → State → Outcome → State → Prop := fun _ st o t => ∃ (v : Option zV) (μ' : zM), o = .returned (v.map (zR g)) ∧ zokO v ∧ zRel g μ' t.heap ∧ K v μ' ∧ va_F (zA g) st t
/-- a call of the method: it returns with K -/
def zCal0 (g : zG) (d : Nat) (k : Nat) (av : List zV) (μ : zM) (K : Option zV → zM → Prop) : Prop := Met g.1 (zMt k).1 (zws (zMt k)) (zrm d) (zPc g av μ) (zQc g K) 0 0 (zA g)
/-- (what a walk comes to, shut so that it is not opened by chance) -/
def zT (g : zG) (d : Nat) (M : zMeth) (K : Option zV → zM → Prop) (pc : Nat) (lv : zL) (st : List zV) (μ : zM) : Prop := zTm g d M K pc lv st μ ∨ False
def zCall (g : zG) (d : Nat) (k : Nat) (av : List zV) (μ : zM) (K : Option zV → zM → Prop) : Prop := zCal0 g d k av μ K ∨ False
/-- one instruction -/
def zgo (g : zG) (d : Nat) (M : zMeth) (K : Option zV → zM → Prop) (k : zC → zL → List zV → zM → Prop) (pc : Nat) (ins : Instr) (r : zC) (lv : zL) (st : List zV) (μ : zM) : Prop := match ins with
  | .iconst n => k r lv (.inl n :: st) μ
  | .bipush n => k r lv (.inl n :: st) μ
  | .sipush n => k r lv (.inl n :: st) μ
  | .lconst n => k r lv (.inr (.inl (n : Nat)) :: st) μ
  | .ldc i => match zpe M.2.2.2.2.1 i with
    | some (4, _, v) => k r lv (.inl v :: st) μ
    | _ => False
  | .ldc_w i => match zpe M.2.2.2.2.1 i with
    | some (4, _, v) => k r lv (.inl v :: st) μ
    | _ => False
  | .ldc2_w i => match zpe M.2.2.2.2.1 i with
    | some (5, _, v) => k r lv (.inr (.inl v) :: st) μ
    | _ => False
  | .iload_n n => match zget lv n with
    | some (.inl x) => k r lv (.inl x :: st) μ
    | _ => False
  | .iload n => match zget lv n with
    | some (.inl x) => k r lv (.inl x :: st) μ
    | _ => False
  | .lload_n n => match zget lv n with
    | some (.inr (.inl x)) => k r lv (.inr (.inl x) :: st) μ
    | _ => False
  | .lload n => match zget lv n with
    | some (.inr (.inl x)) => k r lv (.inr (.inl x) :: st) μ
    | _ => False
  | .aload_n n => match zget lv n with
    | some (.inr (.inr q)) => k r lv (.inr (.inr q) :: st) μ
    | _ => False
  | .aload n => match zget lv n with
    | some (.inr (.inr q)) => k r lv (.inr (.inr q) :: st) μ
    | _ => False
  | .istore_n n => z1 st fun x st => k r (zst1 lv n (.inl x)) st μ
  | .istore n => z1 st fun x st => k r (zst1 lv n (.inl x)) st μ
  | .lstore n => zl1 st fun x st => k r (zst2 lv n (.inr (.inl x))) st μ
  | .astore_n n => zr1 st fun t j st => k r (zst1 lv n (.inr (.inr (t, j)))) st μ
  | .astore n => zr1 st fun t j st => k r (zst1 lv n (.inr (.inr (t, j)))) st μ
  | .iinc i n => match zget lv i with
    | some (.inl x) => k r (zst1 lv i (.inl (zw (x + n)))) st μ
    | _ => False
  | .iadd => z2 st fun x y st => k r lv (.inl (zw (x + y)) :: st) μ
  | .isub => z2 st fun x y st => k r lv (.inl (zw (x - y)) :: st) μ
  | .imul => z2 st fun x y st => k r lv (.inl (zw (x * y)) :: st) μ
  | .idiv => z2 st fun x y st => ¬ y = 0 ∧ k r lv (.inl (zw (Int.tdiv x y)) :: st) μ
  | .ineg => z1 st fun x st => k r lv (.inl (zw (-x)) :: st) μ
  | .iand => z2 st fun x y st => k r lv (.inl (zand x y) :: st) μ
  | .ior => z2 st fun x y st => k r lv (.inl (zor x y) :: st) μ
  | .ixor => z2 st fun x y st => k r lv (.inl (zxor x y) :: st) μ
  | .ishl => z2 st fun x y st => k r lv (.inl (zshl x y) :: st) μ
  | .ishr => z2 st fun x y st => k r lv (.inl (zshr x y) :: st) μ
  | .iushr => z2 st fun x y st => k r lv (.inl (zushr x y) :: st) μ
  | .i2b => z1 st fun x st => k r lv (.inl (zi2b x) :: st) μ
  | .i2s => z1 st fun x st => k r lv (.inl (zi2s x) :: st) μ
  | .i2c => z1 st fun x st => k r lv (.inl (zi2c x) :: st) μ
  | .i2l => z1 st fun x st => k r lv (.inr (.inl x) :: st) μ
  | .l2i => zl1 st fun x st => k r lv (.inl (zw x) :: st) μ
  | .ladd => zl2 st fun x y st => k r lv (.inr (.inl (zx (x + y))) :: st) μ
  | .lsub => zl2 st fun x y st => k r lv (.inr (.inl (zx (x - y))) :: st) μ
  | .lmul => zl2 st fun x y st => k r lv (.inr (.inl (zx (x * y))) :: st) μ
  | .ldiv => zl2 st fun x y st => ¬ y = 0 ∧ k r lv (.inr (.inl (zx (Int.tdiv x y))) :: st) μ
  | .lrem => zl2 st fun x y st => ¬ y = 0 ∧ k r lv (.inr (.inl (zx (Int.tmod x y))) :: st) μ
  | .lcmp => zl2 st fun x y st => k r lv (.inl (zcmp x y) :: st) μ
  | .dup => match st with
    | .inl x :: st => k r lv (.inl x :: .inl x :: st) μ
    | .inr (.inr q) :: st => k r lv (.inr (.inr q) :: .inr (.inr q) :: st) μ
    | _ => False
  | .dup_x1 => match st with
    | .inl x :: .inr (.inr q) :: st => k r lv (.inl x :: .inr (.inr q) :: .inl x :: st) μ
    | _ => False
  | .dup2 => match st with
    | .inl i :: .inr (.inr q) :: st => k r lv (.inl i :: .inr (.inr q) :: .inl i :: .inr (.inr q) :: st) μ
    | _ => False
  | .pop => match st with
    | .inl _ :: st => k r lv st μ
    | _ => False
  | .goto o => k (zto M.2.2.2.2.2 ((pc : Int) + o).toNat) lv st μ
  | .ifCond c o => z1 st fun x st => zcond c x 0 (k (zto M.2.2.2.2.2 ((pc : Int) + o).toNat) lv st μ) (k r lv st μ)
  | .if_icmp c o => z2 st fun x y st => zcond c x y (k (zto M.2.2.2.2.2 ((pc : Int) + o).toNat) lv st μ) (k r lv st μ)
  | .tableswitch dflt lo hi offs => z1 st fun x st => (x < lo ∨ hi < x → k (zto M.2.2.2.2.2 ((pc : Int) + dflt).toNat) lv st μ) ∧ ztab x (fun o => k (zto M.2.2.2.2.2 ((pc : Int) + o).toNat) lv st μ) lo offs.toList
  | .lookupswitch dflt ps => z1 st fun x st => zlsw x (fun o => k (zto M.2.2.2.2.2 ((pc : Int) + o).toNat) lv st μ) dflt ps.toList
  | .getfield i => match zpe M.2.2.2.2.1 i with
    | some (_, c, f) => zr1 st fun t j st => zon (zis t 0 c) (match zfi c f.toNat with
      | some (.inl _) => k r lv (.inl (μ j f) :: st) μ
      | some (.inr (.inl (t', .inl a))) => k r lv (.inr (.inr (t', a)) :: st) μ
      | some (.inr (.inl (t', .inr o))) => k r lv (.inr (.inr (t', j + o)) :: st) μ
      | some (.inr (.inr l)) => zalts (μ j f) (fun t' a => k r lv (.inr (.inr (t', a)) :: st) μ) l
      | none => False)
    | none => False
  | .putfield i => match zpe M.2.2.2.2.1 i with
    | some (_, c, f) => match st with
      | .inl x :: .inr (.inr (t, j)) :: st => zon (zis t 0 c) (match zfi c f.toNat with
        | some (.inl 0) => k r lv st (zU μ j f x)
        | some (.inl _) => (x = 0 ∨ x = 1) ∧ k r lv st (zU μ j f x)
        | _ => False)
      | .inr (.inr (tw, w)) :: .inr (.inr (t, j)) :: st => zon (zis t 0 c) (match zfi c f.toNat with
        | some (.inr (.inr l)) => zon (l.contains (tw, w)) (k r lv st (zU μ j f w))
        | _ => False)
      | _ => False
    | none => False
  | .getstatic i => match zpe M.2.2.2.2.1 i with
    | some (6, 1000, _) => k r lv (.inr (.inr ((6, 6), 1000)) :: st) μ
    | some (6, _, _) => k r lv (.inr (.inr ((6, 8), 1001)) :: st) μ
    | _ => False
  | .iaload => zai st fun i t n j st => zon (Nat.beq t 1) ((0 ≤ i ∧ i < n) ∧ k r lv (.inl (μ j i) :: st) μ)
  | .baload => zai st fun i t n j st => zon (Nat.beq t 2 || Nat.beq t 3) ((0 ≤ i ∧ i < n) ∧ k r lv (.inl (μ j i) :: st) μ)
  | .laload => zai st fun i t n j st => match t with
    | 4 => (0 ≤ i ∧ i < n) ∧ k r lv (.inr (.inl (μ j i)) :: st) μ
    | 6 => (0 ≤ i ∧ i < n) ∧ k r lv (.inr (.inl (zRo j i)) :: st) μ
    | _ => False
  | .aaload => zai st fun i t n j st => zon (Nat.beq t 5) ((0 ≤ i ∧ i < n) ∧ k r lv (.inr (.inr ((0, 7), zBs j + 5 * i.toNat)) :: st) μ)
  | .iastore => zaii st fun x i t n j st => zon (Nat.beq t 1) ((0 ≤ i ∧ i < n) ∧ k r lv st (zU μ j i x))
  | .bastore => zaii st fun x i t n j st => match t with
    | 2 => (0 ≤ i ∧ i < n) ∧ (x = 0 ∨ x = 1) ∧ k r lv st (zU μ j i x)
    | 3 => (0 ≤ i ∧ i < n) ∧ (-128 ≤ x ∧ x ≤ 127) ∧ k r lv st (zU μ j i x)
    | _ => False
  | .lastore => zail st fun x i t n j st => zon (Nat.beq t 4) ((0 ≤ i ∧ i < n) ∧ k r lv st (zU μ j i x))
  | .arraylength => zr1 st fun t _ st => zon (Nat.beq t.1 1 || Nat.beq t.1 4) (k r lv (.inl t.2 :: st) μ)
  | .invokevirtual i => match zpe M.2.2.2.2.1 i with
    | some (2, id, n) => match zpop (n.toNat % 100 + 1) st [] with
      | some (.inr (.inr q) :: as, rest) => zon (zis q.1 0 (n.toNat / 100) && Nat.ble (zcats rest) 8) (0 < d ∧ zCall g (d - 1) id (.inr (.inr q) :: as) μ (fun v μ' => k r lv (v.toList ++ rest) μ'))
      | _ => False
    | _ => False
  | .invokestatic i => match zpe M.2.2.2.2.1 i with
    | some (3, id, n) => match zpop n.toNat st [] with
      | some (as, rest) => zon (Nat.ble (zcats rest) 8) (0 < d ∧ zCall g (d - 1) id as μ (fun v μ' => k r lv (v.toList ++ rest) μ'))
      | none => False
    | some (7, 0, _) => z2 st fun x y st => zon (Nat.ble (zcats st) 8) (0 < d ∧ k r lv (.inl (max x y) :: st) μ)
    | some (7, 1, _) => z2 st fun x y st => zon (Nat.ble (zcats st) 8) (0 < d ∧ k r lv (.inl (min x y) :: st) μ)
    | some (7, 2, _) => z1 st fun x st => zon (Nat.ble (zcats st) 8) (0 < d ∧ k r lv (.inl (zabs x) :: st) μ)
    | some (7, 4, _) => zl2 st fun x y st => zon (Nat.ble (zcats st) 8) (0 < d ∧ k r lv (.inr (.inl (min x y)) :: st) μ)
    | some (7, 3, _) => match st with
      | .inl n :: .inl dp :: .inr (.inr ((k1, m1), j)) :: .inl sp :: .inr (.inr ((k2, m2), j')) :: st => zon (Nat.ble (zcats st) 8 && (Nat.beq k1 1 && Nat.beq k2 1 || Nat.beq k1 4 && Nat.beq k2 4))
          (0 < d ∧ ¬ j = j' ∧ (0 ≤ sp ∧ 0 ≤ dp ∧ 0 ≤ n ∧ sp + n ≤ m2 ∧ dp + n ≤ m1) ∧ k r lv st (zcp μ j' sp j dp n))
      | _ => False
    | _ => False
  | .ireturn => match st, M.2.2.2.1 with
    | [.inl x], some .int => K (some (.inl x)) μ
    | [.inl x], some .boolean => (x = 0 ∨ x = 1) ∧ K (some (.inl x)) μ
    | _, _ => False
  | .lreturn => match st, M.2.2.2.1 with
    | [.inr (.inl x)], some .long => K (some (.inr (.inl x))) μ
    | _, _ => False
  | .return_ => match st, M.2.2.2.1 with
    | [], none => K none μ
    | _, _ => False
  | _ => False
/-- the walk from a place on: to returns, to the cuts, or till n instructions are through -/
def zwp (g : zG) (d : Nat) (M : zMeth) (cuts : List (Nat × List Nat)) (K : Option zV → zM → Prop) : Nat → zC → zL → List zV → zM → Prop
  | _, [], _, _, _ => False
  | 0, q :: _, lv, st, μ => zT g d M K q.1 lv st μ
  | n + 1, q :: r, lv, st, μ => match zcut cuts q.1 with
    | some ms => zT g d M K q.1 (zmask ms 0 lv) st μ
    | none => zgo g d M K (zwp g d M cuts K n) q.1 q.2.1 r lv st μ
/-- the same, whose first instruction is no cut -/
def zrun (g : zG) (d : Nat) (M : zMeth) (cuts : List (Nat × List Nat)) (K : Option zV → zM → Prop) (n : Nat) (C : zC) (lv : zL) (st : List zV) (μ : zM) : Prop := match C with
  | [] => False
  | q :: r => zgo g d M K (zwp g d M cuts K n) q.1 q.2.1 r lv st μ
