/-! THE LAW: the first memory and the first state -/
def mem0 : Mem := (fun a => if a = 1 then (fun i => if i = 2 then -1 else 0) else if a = 124 then (fun i => if i = 3 then -1 else 0) else (fun _ => 0),
  fun a => if a = 96 ∨ a = 100 ∨ a = 105 ∨ a = 109 ∨ a = 115 ∨ a = 122 ∨ a = 123 then (fun i => if i = 1 then 1 else 0) else (fun _ => 0),
  fun a => if a = 0 then (fun i => if i = 2 then 12 else if i = 3 then 22 else if i = 4 then 32 else if i = 5 then 39 else 0) else (fun _ => 0))
def bk0 : Bk := ((0, fun _ => 0, fun _ => 0, fun _ => false), (0, fun _ => 0, fun _ => 0, fun _ => 0, fun _ => 0, fun _ _ => 0), (0, fun _ => 0, fun _ => 0))
def st0 : St := ((fun _ => 0, 0, 0, -1), (bk0, 0, 0, fun _ => 0, fun _ => 0), emL, ([], []), fun _ => (false, bk0))
theorem mem0_0 {a i : Nat} (h : a ≠ 1 ∧ a ≠ 124) : mem0.1 a i = 0 := by
  show (if a = 1 then (fun i => if i = 2 then -1 else 0) else if a = 124 then (fun i => if i = 3 then -1 else 0) else (fun _ => 0) : Nat → Int32) i = 0
  rw [if_neg h.1, if_neg h.2]
theorem ok_st0 : OkS st0 := by
  refine ⟨⟨fun _ => (by decide : (0 : Nat) < 256), Nat.zero_le _⟩, ⟨⟨Nat.zero_le _, ⟨Nat.le_refl _, Nat.zero_le _⟩, fun m hm => absurd hm (Nat.not_lt_zero m), fun m hm => (by cases hm), fun c hc => absurd hc (Nat.not_lt_zero c), Nat.zero_le _, fun t ht => absurd ht (Nat.not_lt_zero t)⟩, ⟨Nat.le_refl _, fun t ht => absurd ht (Nat.not_lt_zero t)⟩, ⟨fun i hi => absurd hi (Nat.not_lt_zero i), fun i k hi => absurd hi (Nat.not_lt_zero i)⟩, fun m hm => absurd hm (Nat.not_lt_zero m)⟩, ok_emL _, ⟨Nat.zero_le _, True.intro, True.intro⟩, fun i hi hx => (by cases hx)⟩
theorem rc_st0 : RC st0 mem0 := by
  have n0 : ∀ {p : Nat → Prop}, ∀ i, i < 0 → p i := fun i hi => absurd hi (Nat.not_lt_zero i)
  refine ⟨12, 32, ⟨⟨Or.inl ⟨rfl, rfl⟩, rfl, Or.inl ⟨rfl, rfl⟩, rfl⟩, ⟨⟨rfl, n0⟩, rfl, rfl⟩, ⟨⟨Or.inl rfl, ⟨rfl, n0, n0, ?_⟩, ⟨rfl, n0, n0, n0, n0, fun c m hc => absurd hc (Nat.not_lt_zero c)⟩, rfl, n0, n0⟩, n0⟩, ⟨Or.inl rfl, rfl, Or.inl rfl⟩, ⟨⟨rfl, rfl⟩, True.intro, True.intro⟩, fun i hi => ⟨?_, fun w => (by cases w)⟩, rfl⟩, Kn_0 rfl⟩
  · show (0 : Int32) = sX (fun _ => false)
    exact sX_0
  · show mem0.1 77 i = 0
    exact mem0_0 (by omega)
theorem rr_st0 : RR st0 mem0 := by
  have n0 : ∀ {p : Nat → Prop}, ∀ i, i < 0 → p i := fun i hi => absurd hi (Nat.not_lt_zero i)
  refine ⟨⟨⟨rfl, n0⟩, rfl, rfl⟩, ⟨⟨rfl, n0, n0, fun m hm => ?_⟩, ⟨rfl, n0, n0, n0, n0, fun c m hc => absurd hc (Nat.not_lt_zero c)⟩, rfl, n0, n0⟩, n0, ⟨rfl, n0, n0⟩, ⟨⟨rfl, rfl⟩, True.intro, True.intro⟩, fun i hi => ⟨?_, fun w => (by cases w)⟩⟩
  · show mem0.1 147 m = 0
    exact mem0_0 (by omega)
  · show mem0.1 177 i = 0
    exact mem0_0 (by omega)
