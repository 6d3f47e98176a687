/-! THE YARD AS NUMBERS: what class and reference are both held against. A state Y: 0 back, 1 front, 2 place, 3 lit, 4 dead, 5 (table, now), 6 length, 7 hoods, 8 shut, 9 size, 10 kind, 11 raise, 12 visitor, 13 (n, turn, go, engines), 14 the rule's code, 15 (its length) -/
def y_cl (n : Int) (f : Int → Int) (i : Int) : Int := if 0 ≤ i ∧ i < n then f i else -1
theorem y_in {n : Int} {f : Int → Int} {i : Int} (h : 0 ≤ i ∧ i < n) : y_cl n f i = f i := if_pos h
/-- a Standing of the class as such a state -/
def vC (μ : zM) (s : Nat) : zM := fun k i => match k with
  | 0 => y_cl 23 (μ (s + 1)) i
  | 1 => y_cl 23 (μ (s + 2)) i
  | 2 => y_cl 12 (μ (s + 3)) i
  | 3 => y_cl 12 (μ (s + 4)) i
  | 4 => y_cl 12 (fun e => zand (zshr (μ s 2) e) 1) i
  | 5 => y_cl 2 (μ s) i
  | 6 => y_cl 23 (μ 2) i
  | 7 => y_cl 23 (μ 3) i
  | 8 => y_cl 23 (μ 4) i
  | 9 => y_cl 12 (μ 6) i
  | 10 => y_cl 12 (μ 7) i
  | 11 => y_cl 12 (μ 8) i
  | 12 => y_cl 12 (μ 9) i
  | 13 => if i = 3 then μ 5 0 else y_cl 3 (μ 1) i
  | 14 => y_cl (μ 12 3) (μ (μ 12 2).toNat) i
  | 15 => μ 12 3
  | _ => 0
/-- the reference's, with the rule as code (of an engine that is not there it keeps anything) -/
def vM (μ : zM) (co : Int → Int) (cn : Int) : zM := fun k i => match k with
  | 0 => y_cl 23 (μ 123) i
  | 1 => y_cl 23 (μ 124) i
  | 2 => y_cl (μ 119 6) (μ 130) i
  | 3 => y_cl (μ 119 6) (μ 131) i
  | 4 => y_cl 12 (μ 129) i
  | 5 => y_cl 2 (fun j => μ 119 (j + 14)) i
  | 6 => y_cl 23 (μ 120) i
  | 7 => y_cl 23 (μ 121) i
  | 8 => y_cl 23 (μ 122) i
  | 9 => y_cl 12 (μ 125) i
  | 10 => y_cl 12 (μ 126) i
  | 11 => y_cl 12 (μ 127) i
  | 12 => y_cl 12 (μ 128) i
  | 13 => if i = 3 then μ 119 6 else if i = 0 then μ 119 0 else if i = 1 then μ 119 16 else if i = 2 then μ 119 17 else -1
  | 14 => y_cl cn co i
  | 15 => cn
  | _ => 0
def zB (b : Bool) : Int := match b with
  | true => 1
  | false => 0
def f_steps (n a b : Int) : Int := min (max (a - b) (b - a)) (n + 1 - max (a - b) (b - a))
def f_point (Y : zM) (e : Int) : Int := if Y 2 e = -1 then Y 13 0 else Y 2 e
def f_len (Y : zM) (s : Int) : Int := (if Y 0 s = -1 then 0 else Y 9 (Y 0 s)) + (if Y 1 s = -1 then 0 else Y 9 (Y 1 s))
def f_steam (Y : zM) (e t : Int) : Bool := decide (¬ Y 3 e = -1 ∧ Y 3 e + Y 11 e ≤ t)
def f_may (Y : zM) (e t : Int) : Bool := f_steam Y e t && decide (Y 4 e = 0)
def f_atb (Y : zM) (e : Int) : Bool := decide (¬ Y 2 e = -1 ∧ Y 0 (Y 2 e) = e)
def f_ahead (Y : zM) (e : Int) : Int := if f_atb Y e = true then Y 1 (Y 2 e) else -1
def f_hood (Y : zM) (s : Int) (b : Bool) : Bool := match b with
  | true => decide (Y 7 s / 2 % 2 = 1)
  | false => decide (Y 7 s % 2 = 1)
def f_hooded (Y : zM) (e : Int) : Bool := decide (¬ Y 2 e = -1) && f_hood Y (Y 2 e) (f_atb Y e)
def f_min (Y : zM) (a b : Int) : Int := Y 13 1 * (f_steps (Y 13 0) (Y 5 0) a + f_steps (Y 13 0) a b) + 2 * Y 13 2
/-- what is true of every state -/
def y_W (Y : zM) : Prop := (4 ≤ Y 13 0 ∧ Y 13 0 ≤ 23 ∧ 1 ≤ Y 13 1 ∧ Y 13 1 ≤ 9 ∧ 0 ≤ Y 13 2 ∧ Y 13 2 ≤ 9 ∧ 0 ≤ Y 13 3 ∧ Y 13 3 ≤ 12) ∧ (0 ≤ Y 5 0 ∧ Y 5 0 ≤ Y 13 0 ∧ 0 ≤ Y 5 1 ∧ Y 5 1 ≤ 400000) ∧
  (∀ s, 0 ≤ s ∧ s < 23 → (10 ≤ Y 6 s ∧ Y 6 s ≤ 60 ∧ 0 ≤ Y 7 s ∧ Y 7 s ≤ 3 ∧ (Y 8 s = 0 ∨ Y 8 s = 1)) ∧ (-1 ≤ Y 0 s ∧ Y 0 s < Y 13 3 ∧ -1 ≤ Y 1 s ∧ Y 1 s < Y 13 3) ∧ (¬ Y 0 s = -1 → Y 2 (Y 0 s) = s) ∧ (¬ Y 1 s = -1 → Y 2 (Y 1 s) = s ∧ ¬ Y 0 s = -1 ∧ ¬ Y 0 s = Y 1 s)) ∧
  (∀ e, 0 ≤ e ∧ e < 12 → (0 ≤ Y 9 e ∧ Y 9 e ≤ 30 ∧ 0 ≤ Y 10 e ∧ Y 10 e ≤ 5 ∧ 0 ≤ Y 11 e ∧ Y 11 e ≤ 600 ∧ (Y 12 e = 0 ∨ Y 12 e = 1) ∧ (Y 4 e = 0 ∨ Y 4 e = 1)) ∧ (-1 ≤ Y 2 e ∧ Y 2 e < Y 13 0 ∧ -1 ≤ Y 3 e ∧ Y 3 e ≤ Y 5 1) ∧ (¬ Y 2 e = -1 → Y 0 (Y 2 e) = e ∨ Y 1 (Y 2 e) = e) ∧ (Y 13 3 ≤ e → Y 2 e = -1 ∧ Y 3 e = -1 ∧ Y 4 e = 0))
theorem k_int {K : Option zV → zM → Prop} {μ : zM} {x y : Int} (h : K (some (.inl y)) μ) (e : x = y) : K (some (.inl x)) μ := e ▸ h
theorem k_one {K : Option zV → zM → Prop} {μ : zM} {b : Bool} (h : K (some (.inl (zB b))) μ) (e : b = true) : K (some (.inl 1)) μ := by
  subst e
  exact h
theorem k_zero {K : Option zV → zM → Prop} {μ : zM} {b : Bool} (h : K (some (.inl (zB b))) μ) (e : b = false) : K (some (.inl 0)) μ := by
  subst e
  exact h
theorem zB_01 (b : Bool) : zB b = 0 ∨ zB b = 1 := by cases b <;> simp [zB]
