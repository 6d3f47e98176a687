/-! THE FRAME: a method's memory as whole numbers, its walk as a condition that is computed out of its code ('zwp'). What it means on the machine: 'zT', 'zCall'. -/
def zget : zL → Nat → Option zV
  | [], _ => none
  | v :: _, 0 => v
  | _ :: l, n + 1 => zget l n
def zset : zL → Nat → Option zV → zL
  | [], _, _ => []
  | _ :: l, 0, v => v :: l
  | a :: l, n + 1, v => a :: zset l n v
/-- a long at the place below goes -/
def zkill (lv : zL) (i : Nat) : zL := match i with
  | 0 => lv
  | j + 1 => match zget lv j with
    | some (.inr (.inl _)) => zset lv j none
    | _ => lv
def zst1 (lv : zL) (i : Nat) (v : zV) : zL := zset (zkill lv i) i (some v)
def zst2 (lv : zL) (i : Nat) (v : zV) : zL := zset (zset (zkill lv i) i (some v)) (i + 1) none
def znth {α : Type} : List α → Nat → Option α
  | [], _ => none
  | v :: _, 0 => some v
  | _ :: l, n + 1 => znth l n
def zlook {α : Type} : List (Nat × α) → Nat → Option α
  | [], _ => none
  | q :: l, n => match Nat.beq q.1 n with
    | true => some q.2
    | false => zlook l n
/-- the code from a place on -/
def zto : zC → Nat → zC
  | [], _ => []
  | q :: l, n => match Nat.beq q.1 n with
    | true => q :: l
    | false => zto l n
-- numbers
def zw (x : Int) : Int := (x + 2147483648) % 4294967296 - 2147483648
def zx (x : Int) : Int := (x + 9223372036854775808) % 18446744073709551616 - 9223372036854775808
def zI32 (x : Int) : Prop := -2147483648 ≤ x ∧ x ≤ 2147483647
def zI64 (x : Int) : Prop := -9223372036854775808 ≤ x ∧ x ≤ 9223372036854775807
def zand (x y : Int) : Int := (Int32.ofInt x &&& Int32.ofInt y).toInt
def zor (x y : Int) : Int := (Int32.ofInt x ||| Int32.ofInt y).toInt
def zxor (x y : Int) : Int := (Int32.ofInt x ^^^ Int32.ofInt y).toInt
def zshl (x y : Int) : Int := (Int32.ofInt x <<< (Int32.ofInt y &&& 31)).toInt
def zshr (x y : Int) : Int := (Int32.ofInt x >>> (Int32.ofInt y &&& 31)).toInt
def zushr (x y : Int) : Int := ((Int32.ofInt x).toUInt32 >>> ((Int32.ofInt y).toUInt32 &&& Int32.toUInt32 31)).toInt32.toInt
def zi2b (x : Int) : Int := (Int32.ofInt x).toInt8.toInt32.toInt
def zi2s (x : Int) : Int := (Int32.ofInt x).toInt16.toInt32.toInt
def zi2c (x : Int) : Int := ((Int32.ofInt x).toUInt32 % 65536).toInt32.toInt
def zabs (x : Int) : Int := if 0 ≤ x then x else zw (0 - x)
def zcmp (x y : Int) : Int := if y < x then 1 else if x = y then 0 else -1
-- memory
def zU (μ : zM) (j : Nat) (i v : Int) : zM := fun a b => if a = j ∧ b = i then v else μ a b
/-- cells from sp on of j' come to j from dp on -/
def zcp (μ : zM) (j' : Nat) (sp : Int) (j : Nat) (dp n : Int) : zM := fun a b => if a = j ∧ dp ≤ b ∧ b < dp + n then μ j' (b - dp + sp) else μ a b
-- what stands on the stack
def z1 (st : List zV) (f : Int → List zV → Prop) : Prop := match st with
  | .inl x :: r => f x r
  | _ => False
def z2 (st : List zV) (f : Int → Int → List zV → Prop) : Prop := match st with
  | .inl y :: .inl x :: r => f x y r
  | _ => False
def zl1 (st : List zV) (f : Int → List zV → Prop) : Prop := match st with
  | .inr (.inl x) :: r => f x r
  | _ => False
def zl2 (st : List zV) (f : Int → Int → List zV → Prop) : Prop := match st with
  | .inr (.inl y) :: .inr (.inl x) :: r => f x y r
  | _ => False
def zr1 (st : List zV) (f : zT0 → Nat → List zV → Prop) : Prop := match st with
  | .inr (.inr (t, j)) :: r => f t j r
  | _ => False
/-- an array and an index -/
def zai (st : List zV) (f : Int → Nat → Nat → Nat → List zV → Prop) : Prop := match st with
  | .inl i :: .inr (.inr ((t, n), j)) :: r => f i t n j r
  | _ => False
/-- an array, an index, an int -/
def zaii (st : List zV) (f : Int → Int → Nat → Nat → Nat → List zV → Prop) : Prop := match st with
  | .inl x :: .inl i :: .inr (.inr ((t, n), j)) :: r => f x i t n j r
  | _ => False
def zail (st : List zV) (f : Int → Int → Nat → Nat → Nat → List zV → Prop) : Prop := match st with
  | .inr (.inl x) :: .inl i :: .inr (.inr ((t, n), j)) :: r => f x i t n j r
  | _ => False
def zon (b : Bool) (P : Prop) : Prop := match b with
  | true => P
  | false => False
def zis (t : zT0) (a b : Nat) : Bool := match Nat.beq t.1 a with
  | true => Nat.beq t.2 b
  | false => false
def zcat : zV → Nat
  | .inr (.inl _) => 2
  | _ => 1
def zcats : List zV → Nat
  | [] => 0
  | v :: r => zcat v + zcats r
def zpop : Nat → List zV → List zV → Option (List zV × List zV)
  | 0, st, acc => some (acc, st)
  | _ + 1, [], _ => none
  | n + 1, v :: st, acc => zpop n st (v :: acc)
def zcond (c : ClassFile.Cond) (x y : Int) (A B : Prop) : Prop := match c with
  | .eq => (x = y → A) ∧ (¬ x = y → B)
  | .ne => (¬ x = y → A) ∧ (x = y → B)
  | .lt => (x < y → A) ∧ (y ≤ x → B)
  | .ge => (y ≤ x → A) ∧ (x < y → B)
  | .gt => (y < x → A) ∧ (x ≤ y → B)
  | .le => (x ≤ y → A) ∧ (y < x → B)
def ztab (x : Int) (f : Int → Prop) : Int → List Int → Prop
  | _, [] => True
  | v, o :: os => (x = v → f o) ∧ ztab x f (v + 1) os
def zlsw (x : Int) (f : Int → Prop) (dflt : Int) : List (Int × Int) → Prop
  | [] => f dflt
  | q :: ps => (x = q.1 → f q.2) ∧ (¬ x = q.1 → zlsw x f dflt ps)
def zalts (v : Int) (f : zT0 → Nat → Prop) : List (zT0 × Nat) → Prop
  | [] => False
  | (t, a) :: l => (v = (a : Int) ∧ f t a) ∨ zalts v f l
def zfi (c k : Nat) : Option zFI := match znth zFl c with
  | some l => znth l k
  | none => none
def zpe (own idx : Nat) : Option zPE := match znth zPl own with
  | some l => zlook l idx
  | none => none
def zmask (ms : List Nat) : Nat → zL → zL
  | _, [] => []
  | k, v :: l => (match ms.contains k with
    | true => v
    | false => none) :: zmask ms (k + 1) l
def zcut : List (Nat × List Nat) → Nat → Option (List Nat)
  | [], _ => none
  | q :: l, pc => match Nat.beq q.1 pc with
    | true => some q.2
    | false => zcut l pc
