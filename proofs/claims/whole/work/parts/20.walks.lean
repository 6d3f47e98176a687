/-! calls whose answers are written out -/
theorem zCall_mono {g : zG} {d k : Nat} {av : List zV} {μ : zM} {K K' : Option zV → zM → Prop} (hk : ∀ v μ', K v μ' → K' v μ') (h : zCall g d k av μ K) : zCall g d k av μ K' := by
  rcases h with h | h
  · refine Or.inl ?_
    unfold zCal0 Met at h ⊢
    intro p e ha hc hk2 s m args below hf happ hP hK
    obtain ⟨n, o, h1, h2, h3, ⟨⟨v, m, g1, g2, g3, g4, g5⟩, h6⟩⟩ := h p e ha hc hk2 s m args below hf happ hP hK
    exact ⟨n, o, h1, h2, h3, ⟨⟨v, m, g1, g2, g3, hk v m g4, g5⟩, h6⟩⟩
  · exact h.elim
def zIi (f : Int → zM → Prop) : Option zV → zM → Prop := fun v μ => match v with
  | some (.inl x) => f x μ
  | _ => False
def zJj (f : Int → zM → Prop) : Option zV → zM → Prop := fun v μ => match v with
  | some (.inr (.inl x)) => f x μ
  | _ => False
def zNn (f : zM → Prop) : Option zV → zM → Prop := fun v μ => match v with
  | none => f μ
  | _ => False
def zBz (f1 f0 : zM → Prop) : Option zV → zM → Prop := fun v μ => match v with
  | some (.inl x) => (x = 1 ∧ f1 μ) ∨ (x = 0 ∧ f0 μ)
  | _ => False
theorem zi {f : Int → zM → Prop} {x : Int} {μ : zM} (h : f x μ) : zIi f (some (.inl x)) μ := h
theorem zj {f : Int → zM → Prop} {x : Int} {μ : zM} (h : f x μ) : zJj f (some (.inr (.inl x))) μ := h
theorem zn {f : zM → Prop} {μ : zM} (h : f μ) : zNn f none μ := h
theorem zb1 {f1 f0 : zM → Prop} {μ : zM} (h : f1 μ) : zBz f1 f0 (some (.inl 1)) μ := Or.inl ⟨rfl, h⟩
theorem zb0 {f1 f0 : zM → Prop} {μ : zM} (h : f0 μ) : zBz f1 f0 (some (.inl 0)) μ := Or.inr ⟨rfl, h⟩
section
variable {g : zG} {d k : Nat} {av : List zV} {μ : zM} {K : Option zV → zM → Prop}
theorem zC_I {f : Int → zM → Prop} (hk : ∀ x μ', f x μ' → K (some (.inl x)) μ') (h : zCall g d k av μ (zIi f)) : zCall g d k av μ K := zCall_mono (fun v μ' h => match v, h with
  | some (.inl x), h => hk x μ' h) h
theorem zC_J {f : Int → zM → Prop} (hk : ∀ x μ', f x μ' → K (some (.inr (.inl x))) μ') (h : zCall g d k av μ (zJj f)) : zCall g d k av μ K := zCall_mono (fun v μ' h => match v, h with
  | some (.inr (.inl x)), h => hk x μ' h) h
theorem zC_N {f : zM → Prop} (hk : ∀ μ', f μ' → K none μ') (h : zCall g d k av μ (zNn f)) : zCall g d k av μ K := zCall_mono (fun v μ' h => match v, h with
  | none, h => hk μ' h) h
theorem zC_B {f1 f0 : zM → Prop} (h1 : ∀ μ', f1 μ' → K (some (.inl 1)) μ') (h0 : ∀ μ', f0 μ' → K (some (.inl 0)) μ') (h : zCall g d k av μ (zBz f1 f0)) : zCall g d k av μ K := zCall_mono (fun v μ' h => match v, h with
  | some (.inl x), h => by
    rcases h with ⟨rfl, h⟩ | ⟨rfl, h⟩
    · exact h1 μ' h
    · exact h0 μ' h) h
end
