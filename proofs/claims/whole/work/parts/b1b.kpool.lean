-- needs b1
/-! the pools' entries that only the constructors use (laid by wip/whole/gen_kcode.py) -/
theorem kp3_29 : zPok 3 29 (0, 3, 5) := ⟨⟨RX3, TX3, 7, rfl, by decide +kernel, by decide +kernel, Or.inl ⟨rfl, (zmA 1 105 (by decide +kernel) (by decide +kernel))⟩, (fun e => by cases e), (fun e => by cases e), (fun l e => by cases e), (fun n e => by cases e)⟩, by decide⟩
theorem kp3_32 : zPok 3 32 (0, 3, 6) := ⟨⟨RX3, TX3, 7, rfl, by decide +kernel, by decide +kernel, Or.inl ⟨rfl, (zmA 1 108 (by decide +kernel) (by decide +kernel))⟩, (fun e => by cases e), (fun e => by cases e), (fun l e => by cases e), (fun n e => by cases e)⟩, by decide⟩
theorem kp4_9 : zPok 4 9 (0, 4, 1) := ⟨⟨RX4, TX4, 6, rfl, by decide +kernel, by decide +kernel, Or.inl ⟨rfl, (zmA 1 50 (by decide +kernel) (by decide +kernel))⟩, (fun _ => ⟨by decide +kernel, rfl⟩), (fun e => by cases e), (fun l e => by cases e), (fun n e => by cases e; decide)⟩, by decide⟩
theorem kp4_15 : zPok 4 15 (0, 4, 2) := ⟨⟨RX4, TX4, 6, rfl, by decide +kernel, by decide +kernel, Or.inl ⟨rfl, (zmA 1 53 (by decide +kernel) (by decide +kernel))⟩, (fun _ => ⟨by decide +kernel, rfl⟩), (fun e => by cases e), (fun l e => by cases e), (fun n e => by cases e; decide)⟩, by decide⟩
theorem kp4_29 : zPok 4 29 (2, 34, 401) := ⟨⟨(zmA 1 41 (by decide +kernel) (by decide +kernel)), zce_34⟩, zve_34⟩
theorem kp7_34 : zPok 7 34 (3, 285, 2) := ⟨⟨(zmA 1 187 (by decide +kernel) (by decide +kernel)), zce_285⟩, zve_285⟩
theorem kp12_133 : zPok 12 133 (4, 0, 36864) := ⟨by unfold zI32; decide +kernel, (zmA 7 40 (by decide +kernel) (by decide +kernel))⟩
def kPx (own i : Nat) : Option zPE := if own = 3 ∧ i = 29 then some (0, 3, 5) else if own = 3 ∧ i = 32 then some (0, 3, 6) else if own = 4 ∧ i = 9 then some (0, 4, 1) else if own = 4 ∧ i = 15 then some (0, 4, 2) else if own = 4 ∧ i = 29 then some (2, 34, 401) else if own = 7 ∧ i = 34 then some (3, 285, 2) else if own = 12 ∧ i = 133 then some (4, 0, 36864) else none
def kpe (own i : Nat) : Option zPE := match zpe own i with
  | some e => some e
  | none => kPx own i
theorem kPx_ok {own i : Nat} {e : zPE} (h : kPx own i = some e) : zPok own i e := by
  unfold kPx at h
  split at h
  · rename_i q
    cases h
    rw [q.1, q.2]
    exact kp3_29
  split at h
  · rename_i q
    cases h
    rw [q.1, q.2]
    exact kp3_32
  split at h
  · rename_i q
    cases h
    rw [q.1, q.2]
    exact kp4_9
  split at h
  · rename_i q
    cases h
    rw [q.1, q.2]
    exact kp4_15
  split at h
  · rename_i q
    cases h
    rw [q.1, q.2]
    exact kp4_29
  split at h
  · rename_i q
    cases h
    rw [q.1, q.2]
    exact kp7_34
  split at h
  · rename_i q
    cases h
    rw [q.1, q.2]
    exact kp12_133
  cases h
theorem kpe_ok {own i : Nat} {e : zPE} (h : kpe own i = some e) : zPok own i e := by
  unfold kpe at h
  split at h
  · rename_i e9 q
    cases h
    exact zPool_ok _ _ _ q
  · exact kPx_ok h
