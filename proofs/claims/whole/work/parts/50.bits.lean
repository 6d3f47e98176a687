-- needs 06
/-! bits of whole numbers -/
def zbit (x : Int) (i : Nat) : Bool := (BitVec.ofInt 32 x).getLsbD i
theorem zv_and (x y : Int) : BitVec.ofInt 32 (zand x y) = BitVec.ofInt 32 x &&& BitVec.ofInt 32 y := by
  show BitVec.ofInt 32 ((BitVec.ofInt 32 x &&& BitVec.ofInt 32 y).toInt) = _
  exact BitVec.ofInt_toInt
theorem zv_or (x y : Int) : BitVec.ofInt 32 (zor x y) = BitVec.ofInt 32 x ||| BitVec.ofInt 32 y := by
  show BitVec.ofInt 32 ((BitVec.ofInt 32 x ||| BitVec.ofInt 32 y).toInt) = _
  exact BitVec.ofInt_toInt
theorem zv_xor (x y : Int) : BitVec.ofInt 32 (zxor x y) = BitVec.ofInt 32 x ^^^ BitVec.ofInt 32 y := by
  show BitVec.ofInt 32 ((BitVec.ofInt 32 x ^^^ BitVec.ofInt 32 y).toInt) = _
  exact BitVec.ofInt_toInt
theorem zbit_and (x y : Int) (i : Nat) : zbit (zand x y) i = (zbit x i && zbit y i) := by
  unfold zbit
  rw [zv_and, BitVec.getLsbD_and]
theorem zbit_or (x y : Int) (i : Nat) : zbit (zor x y) i = (zbit x i || zbit y i) := by
  unfold zbit
  rw [zv_or, BitVec.getLsbD_or]
theorem zbit_xor (x y : Int) (i : Nat) : zbit (zxor x y) i = Bool.xor (zbit x i) (zbit y i) := by
  unfold zbit
  rw [zv_xor, BitVec.getLsbD_xor]
theorem zbit_nat (m i : Nat) (h : i < 32) : zbit (m : Int) i = m.testBit i := by
  unfold zbit
  rw [BitVec.ofInt_natCast, BitVec.getLsbD_ofNat, decide_eq_true h, Bool.true_and]
theorem zbit_big (x : Int) (i : Nat) (h : 32 ≤ i) : zbit x i = false := BitVec.getLsbD_of_ge _ _ h
theorem zbit_m1 (i : Nat) : zbit (-1) i = decide (i < 32) := by
  unfold zbit
  rw [show BitVec.ofInt 32 (-1) = BitVec.allOnes 32 from by decide, BitVec.getLsbD_allOnes]
theorem zbit_not (x : Int) (i : Nat) (h : i < 32) : zbit (zxor x (-1)) i = !zbit x i := by
  rw [zbit_xor, zbit_m1, decide_eq_true h, Bool.xor_true]
theorem zI32_and (x y : Int) : zI32 (zand x y) := zI32_to _
theorem zI32_or (x y : Int) : zI32 (zor x y) := zI32_to _
theorem zI32_xor (x y : Int) : zI32 (zxor x y) := zI32_to _
theorem zI32_shl (x y : Int) : zI32 (zshl x y) := zI32_to _
theorem zI32_shr (x y : Int) : zI32 (zshr x y) := zI32_to _
theorem zI32_nat {m : Nat} (h : m < 2147483648) : zI32 (m : Int) := by
  unfold zI32
  omega
theorem zb_ext {x y : Int} (hx : zI32 x) (hy : zI32 y) (h : ∀ i, i < 32 → zbit x i = zbit y i) : x = y := by
  have e : BitVec.ofInt 32 x = BitVec.ofInt 32 y := BitVec.eq_of_getLsbD_eq h
  rw [← zto_of hx, ← zto_of hy]
  show (BitVec.ofInt 32 x).toInt = (BitVec.ofInt 32 y).toInt
  rw [e]
theorem zbit_0 (i : Nat) : zbit 0 i = false := by
  unfold zbit
  rw [show BitVec.ofInt 32 0 = 0#32 from by decide, BitVec.getLsbD_zero]
theorem zb_neg {x : Int} (hx : zI32 x) : zbit x 31 = decide (x < 0) := by
  have e : (BitVec.ofInt 32 x).toInt = x := zto_of hx
  unfold zbit
  have h1 : (BitVec.ofInt 32 x).msb = (BitVec.ofInt 32 x).getLsbD 31 := BitVec.msb_eq_getLsbD_last _
  rw [← h1, BitVec.msb_eq_toInt, e]
theorem zb_pos {x : Int} (hx : zI32 x) (h0 : 0 ≤ x) : ∃ m : Nat, x = (m : Int) ∧ m < 2147483648 := ⟨x.toNat, by omega, by unfold zI32 at hx; omega⟩
theorem zand_nat {a b : Nat} (ha : a < 2147483648) (hb : b < 2147483648) : zand (a : Int) (b : Int) = ((a &&& b : Nat) : Int) := by
  have h1 : a &&& b < 2147483648 := Nat.lt_of_le_of_lt Nat.and_le_left ha
  refine zb_ext (zI32_and _ _) (zI32_nat h1) (fun i hi => ?_)
  rw [zbit_and, zbit_nat _ _ hi, zbit_nat _ _ hi, zbit_nat _ _ hi, Nat.testBit_and]
theorem zor_nat {a b : Nat} (ha : a < 2147483648) (hb : b < 2147483648) : zor (a : Int) (b : Int) = ((a ||| b : Nat) : Int) := by
  have h1 : a ||| b < 2147483648 := Nat.or_lt_two_pow (n := 31) ha hb
  refine zb_ext (zI32_or _ _) (zI32_nat h1) (fun i hi => ?_)
  rw [zbit_or, zbit_nat _ _ hi, zbit_nat _ _ hi, zbit_nat _ _ hi, Nat.testBit_or]
theorem zshl_all : ∀ k : Nat, k < 31 → zshl 1 (k : Int) = ((2 ^ k : Nat) : Int) := by decide +kernel
theorem zshl_1 {e : Int} (h : 0 ≤ e ∧ e < 31) : zshl 1 e = ((2 ^ e.toNat : Nat) : Int) := by
  have := zshl_all e.toNat (by omega)
  rw [show ((e.toNat : Nat) : Int) = e from by omega] at this
  exact this
theorem z_sh_all : ∀ k : Nat, k < 32 → ((Int32.ofInt (k : Int) &&& 31).toBitVec.smod 32).toNat = k := by decide +kernel
theorem zshr_div {x e : Int} (hx : zI32 x) (h : 0 ≤ e ∧ e < 32) : zshr x e = x / ((2 ^ e.toNat : Nat) : Int) := by
  have hs := z_sh_all e.toNat (by omega)
  rw [show ((e.toNat : Nat) : Int) = e from by omega] at hs
  unfold zshr
  rw [pk_shr _ _ _ hs, zto_of hx, Int.shiftRight_eq_div_pow]
theorem zshr_nat {m : Nat} {e : Int} (hm : m < 2147483648) (h : 0 ≤ e ∧ e < 32) : zshr (m : Int) e = ((m / 2 ^ e.toNat : Nat) : Int) := by
  rw [zshr_div (zI32_nat hm) h]
  rfl
theorem zand_1 {m : Nat} (hm : m < 2147483648) : zand (m : Int) 1 = ((m % 2 : Nat) : Int) := by
  have := zand_nat (a := m) (b := 1) hm (by omega)
  rw [Nat.and_one_is_mod] at this
  exact this
theorem z_tst {m : Nat} {e : Int} (hm : m < 2147483648) (h : 0 ≤ e ∧ e < 32) : zand (zshr (m : Int) e) 1 = if m.testBit e.toNat then 1 else 0 := by
  rw [zshr_nat hm h, zand_1 (Nat.lt_of_le_of_lt (Nat.div_le_self _ _) hm), Nat.testBit_eq_decide_div_mod_eq]
  have := Nat.mod_two_eq_zero_or_one (m / 2 ^ e.toNat)
  rcases this with h | h <;> rw [h] <;> simp
theorem z_tst0 {m : Nat} {e : Int} (hm : m < 2147483648) (h : 0 ≤ e ∧ e < 32) : zand (zshr (m : Int) e) 1 = 0 ↔ m.testBit e.toNat = false := by
  rw [z_tst hm h]
  cases m.testBit e.toNat <;> simp
/-- a mask as a number: bits of those below n that p names -/
def f_bits (p : Nat → Bool) : Nat → Nat
  | 0 => 0
  | n + 1 => f_bits p n + if p n then 2 ^ n else 0
theorem f_bits_lt (p : Nat → Bool) : ∀ n : Nat, f_bits p n < 2 ^ n
  | 0 => by simp [f_bits]
  | n + 1 => by
    have := f_bits_lt p n
    simp only [f_bits]
    rw [Nat.pow_succ]
    split <;> omega
theorem f_bits_or (p : Nat → Bool) (n : Nat) (h : p n = true) : f_bits p n ||| 2 ^ n = f_bits p (n + 1) := by
  simp only [f_bits, h, if_true]
  have := Nat.two_pow_add_eq_or_of_lt (f_bits_lt p n) 1
  rw [Nat.mul_one] at this
  rw [Nat.or_comm, ← this, Nat.add_comm]
theorem f_bits_test (p : Nat → Bool) : ∀ n i : Nat, (f_bits p n).testBit i = (decide (i < n) && p i)
  | 0, i => by simp [f_bits]
  | n + 1, i => by
    have ih := f_bits_test p n i
    by_cases h : p n = true
    · rw [← f_bits_or p n h, Nat.testBit_or, ih, Nat.testBit_two_pow]
      by_cases q : n = i
      · subst q; simp [h]
      · by_cases q2 : i < n
        · simp [q2, show i < n + 1 from by omega, q]
        · simp [q2, q, show ¬ i < n + 1 from by omega]
    · simp only [f_bits, h]
      rw [if_neg (by simp), Nat.add_zero, ih]
      by_cases q : n = i
      · subst q; simp [h]
      · by_cases q2 : i < n
        · simp [q2, show i < n + 1 from by omega]
        · simp [q2, show ¬ i < n + 1 from by omega]
theorem f_bits_ext {p q : Nat → Bool} : ∀ {n : Nat}, (∀ i, i < n → p i = q i) → f_bits p n = f_bits q n
  | 0, _ => rfl
  | n + 1, h => by
    simp only [f_bits]
    rw [f_bits_ext (fun i hi => h i (by omega)), h n (by omega)]
/-- those above a place aren't named -/
theorem f_bits_more {p : Nat → Bool} {n : Nat} : ∀ (k : Nat), (∀ i, n ≤ i → i < n + k → p i = false) → f_bits p (n + k) = f_bits p n
  | 0, _ => rfl
  | k + 1, h => by
    show f_bits p (n + k) + (if p (n + k) = true then 2 ^ (n + k) else 0) = _
    rw [f_bits_more k (fun i h1 h2 => h i h1 (by omega)), h (n + k) (by omega) (by omega)]
    simp
theorem f_bits_0 {p : Nat → Bool} {n : Nat} : f_bits p n = 0 ↔ ∀ i, i < n → p i = false := by
  constructor
  · intro h i hi
    have := f_bits_test p n i
    rw [h, Nat.zero_testBit, decide_eq_true hi, Bool.true_and] at this
    exact this.symm
  · intro h
    apply Nat.eq_of_testBit_eq
    intro i
    rw [f_bits_test, Nat.zero_testBit]
    by_cases q : i < n
    · rw [h i q]; simp
    · simp [q]
/-- a bit more -/
theorem z_or_bit {p : Nat → Bool} {n : Nat} (hn : n < 31) (h : p n = true) : zor (f_bits p n : Int) (zshl 1 (n : Int)) = (f_bits p (n + 1) : Int) := by
  have h1 := f_bits_lt p n
  have h2 : 2 ^ n < 2147483648 := Nat.pow_lt_pow_right (a := 2) (n := 31) (by omega) hn
  rw [zshl_all n hn, zor_nat (by omega) h2, f_bits_or p n h]
theorem z_no_bit {p : Nat → Bool} {n : Nat} (h : p n = false) : f_bits p n = f_bits p (n + 1) := by
  simp [f_bits, h]
theorem zv_shr (x : Int) {e : Int} (h : 0 ≤ e ∧ e < 32) : BitVec.ofInt 32 (zshr x e) = (BitVec.ofInt 32 x).sshiftRight e.toNat := by
  have hs := z_sh_all e.toNat (by omega)
  rw [show ((e.toNat : Nat) : Int) = e from by omega] at hs
  show BitVec.ofInt 32 (((BitVec.ofInt 32 x).sshiftRight ((Int32.ofInt e &&& 31).toBitVec.smod 32).toNat).toInt) = _
  rw [BitVec.ofInt_toInt, hs]
theorem z_t1 (i : Nat) : (1 : Nat).testBit i = decide (i = 0) := by
  have : (2 ^ 0 : Nat).testBit i = decide (0 = i) := Nat.testBit_two_pow
  rw [show (1 : Nat) = 2 ^ 0 from rfl, this]
  by_cases q : i = 0
  · simp [q]
  · simp [q, show ¬ 0 = i from fun h => q h.symm]
/-- one bit of any number -/
theorem z_tstb (x : Int) {e : Int} (h : 0 ≤ e ∧ e < 32) : zand (zshr x e) 1 = if zbit x e.toNat then 1 else 0 := by
  have key : ∀ i, i < 32 → zbit (zand (zshr x e) 1) i = (decide (i = 0) && zbit x e.toNat) := by
    intro i hi
    rw [zbit_and]
    by_cases q : i = 0
    · subst q
      have : zbit (zshr x e) 0 = zbit x e.toNat := by
        unfold zbit
        rw [zv_shr x h, BitVec.getLsbD_sshiftRight]
        simp [show e.toNat < 32 from by omega]
      rw [this, show zbit 1 0 = true from by decide]
      simp
    · have : zbit 1 i = false := by
        have := zbit_nat 1 i hi
        rw [show ((1 : Nat) : Int) = 1 from rfl] at this
        rw [this, z_t1]
        simp [q]
      rw [this]
      simp [q]
  cases hb : zbit x e.toNat
  · refine zb_ext (zI32_and _ _) (by unfold zI32; simp) (fun i hi => ?_)
    rw [key i hi, hb]; simp [zbit_0]
  · refine zb_ext (zI32_and _ _) (by unfold zI32; simp) (fun i hi => ?_)
    rw [key i hi, hb]
    have := zbit_nat 1 i hi
    rw [show ((1 : Nat) : Int) = 1 from rfl] at this
    rw [if_pos rfl, this, z_t1]
    simp
