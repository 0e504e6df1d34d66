/-! THE FEWEST WITHOUT WHICH NONE CLASH. Sets are numbers; cvr: of each pair that clashes one is in -/
def pc (n s : Nat) : Nat := cN n (fun k => s.testBit k)
def cvr (n : Nat) (E : Nat → Nat → Bool) (s : Nat) : Prop := ∀ a b, a < n → b < n → E a b = true → s.testBit a = true ∨ s.testBit b = true
theorem pc_sub {n s t : Nat} (h : ∀ k, k < n → s.testBit k = true → t.testBit k = true) : pc n s ≤ pc n t := cN_le n h
theorem pc_eq {n s t : Nat} (h : ∀ k, k < n → s.testBit k = true → t.testBit k = true) (e : pc n t ≤ pc n s) : ∀ k, k < n → s.testBit k = t.testBit k := by
  intro k hk
  cases q : t.testBit k
  · cases r : s.testBit k
    · rfl
    · rw [h k hk r] at q; cases q
  · cases r : s.testBit k
    · have := cN_lt (p := fun k => s.testBit k) (q := fun k => t.testBit k) n h ⟨k, hk, r, q⟩
      exact absurd this (Nat.not_lt.mpr e)
    · rfl
/-- a set below 2^n is told by its first n bits -/
theorem set_ext {n s t : Nat} (hs : s < 2 ^ n) (ht : t < 2 ^ n) (h : ∀ k, k < n → s.testBit k = t.testBit k) : s = t := by
  apply Nat.eq_of_testBit_eq
  intro k
  rcases Nat.lt_or_ge k n with q | q
  · exact h k q
  · rw [Nat.testBit_lt_two_pow (Nat.lt_of_lt_of_le hs (Nat.pow_le_pow_right (by omega) q)), Nat.testBit_lt_two_pow (Nat.lt_of_lt_of_le ht (Nat.pow_le_pow_right (by omega) q))]
/-- how the tally stands over the sets in X: f the fewest, l the least of those of as few, k how many -/
def Tal (n : Nat) (X : Nat → Prop) (f l k : Nat) : Prop :=
  (∀ s, X s → f ≤ pc n s) ∧ ∃ L : List Nat, L.length = k ∧ L.Nodup ∧ (∀ s, s ∈ L ↔ X s ∧ pc n s = f) ∧ (L = [] → n < f) ∧ (L ≠ [] → l ∈ L ∧ ∀ s, s ∈ L → l ≤ s)
theorem tal_one {n : Nat} {X : Nat → Prop} {f l k f' l' k' : Nat} (h : Tal n X f l k) (h' : Tal n X f' l' k') (hX : ∃ s, X s) : f = f' ∧ l = l' ∧ k = k' := by
  obtain ⟨h1, L, h2, h3, h4, h5, h6⟩ := h
  obtain ⟨h1', L', h2', h3', h4', h5', h6'⟩ := h'
  obtain ⟨s, hs⟩ := hX
  have hn : L ≠ [] := fun q => by
    have := h5 q; have := h1 s hs; have := cN_max (fun k => s.testBit k) n
    have e : pc n s = cN n (fun k => s.testBit k) := rfl
    omega
  have hn' : L' ≠ [] := fun q => by
    have := h5' q; have := h1' s hs; have := cN_max (fun k => s.testBit k) n
    have e : pc n s = cN n (fun k => s.testBit k) := rfl
    omega
  have m1 := (h4 l).mp (h6 hn).1
  have m2 := (h4' l').mp (h6' hn').1
  have ef : f = f' := by
    have := h1 l' m2.1; have := h1' l m1.1
    have := m1.2; have := m2.2
    omega
  subst ef
  have hm : ∀ s, s ∈ L ↔ s ∈ L' := fun s => (h4 s).trans (h4' s).symm
  refine ⟨rfl, ?_, ?_⟩
  · exact Nat.le_antisymm ((h6 hn).2 l' ((hm l').mpr (h6' hn').1)) ((h6' hn').2 l ((hm l).mp (h6 hn).1))
  · rw [← h2, ← h2']
    exact Nat.le_antisymm (List.Nodup.length_le_of_subset h3 fun s hs => (hm s).mp hs) (List.Nodup.length_le_of_subset h3' fun s hs => (hm s).mpr hs)
theorem tal_congr {n : Nat} {X X' : Nat → Prop} {f l k : Nat} (e : ∀ s, X s ↔ X' s) (h : Tal n X f l k) : Tal n X' f l k := by
  obtain ⟨h1, L, h2, h3, h4, h5, h6⟩ := h
  exact ⟨fun s hs => h1 s ((e s).mpr hs), L, h2, h3, fun s => by rw [h4 s, e s], h5, h6⟩
/-- more sets, of more than the fewest -/
theorem tal_skip {n : Nat} {X Y : Nat → Prop} {f l k : Nat} (h : Tal n X f l k) (hY : ∀ s, Y s → f < pc n s) : Tal n (fun s => X s ∨ Y s) f l k := by
  obtain ⟨h1, L, h2, h3, h4, h5, h6⟩ := h
  refine ⟨fun s hs => ?_, L, h2, h3, fun s => ?_, h5, h6⟩
  · rcases hs with q | q
    · exact h1 s q
    · exact Nat.le_of_lt (hY s q)
  · rw [h4 s]
    constructor
    · exact fun q => ⟨Or.inl q.1, q.2⟩
    · rintro ⟨q | q, e⟩
      · exact ⟨q, e⟩
      · have := hY s q; omega
/-- a set t is noted, the one of fewest in Y -/
theorem tal_note {n : Nat} {X Y : Nat → Prop} {f l k t : Nat} (h : Tal n X f l k) (ht : Y t) (hY : ∀ s, Y s → pc n t ≤ pc n s ∧ (pc n s = pc n t → s = t)) (hX : ¬ X t) (hle : pc n t ≤ f) :
    Tal n (fun s => X s ∨ Y s) (pc n t) (if pc n t < f then t else if t < l then t else l) (if pc n t < f then 1 else k + 1) := by
  obtain ⟨h1, L, h2, h3, h4, h5, h6⟩ := h
  by_cases q : pc n t < f
  · rw [if_pos q, if_pos q]
    refine ⟨fun s hs => ?_, [t], rfl, by simp, fun s => ?_, fun e => (by cases e), fun _ => ⟨by simp, fun s hs => by simp at hs; omega⟩⟩
    · rcases hs with r | r
      · have := h1 s r; omega
      · exact (hY s r).1
    · simp only [List.mem_singleton]
      constructor
      · rintro rfl; exact ⟨Or.inr ht, rfl⟩
      · rintro ⟨r | r, e⟩
        · have := h1 s r; omega
        · exact (hY s r).2 e
  · rw [if_neg q, if_neg q]
    have ef : pc n t = f := by omega
    have hn : L ≠ [] := fun e => by
      have := h5 e
      have := cN_max (fun k => t.testBit k) n
      have e : pc n t = cN n (fun k => t.testBit k) := rfl
      omega
    refine ⟨fun s hs => ?_, t :: L, by simp [h2], ?_, fun s => ?_, fun e => (by cases e), fun _ => ⟨?_, fun s hs => ?_⟩⟩
    · rcases hs with r | r
      · have := h1 s r; omega
      · exact (hY s r).1
    · exact List.nodup_cons.mpr ⟨fun r => hX ((h4 t).mp r).1, h3⟩
    · rw [List.mem_cons, h4 s]
      constructor
      · rintro (rfl | ⟨r, e⟩)
        · exact ⟨Or.inr ht, rfl⟩
        · exact ⟨Or.inl r, by omega⟩
      · rintro ⟨r | r, e⟩
        · exact Or.inr ⟨r, by omega⟩
        · exact Or.inl ((hY s r).2 e)
    · split
      · exact List.mem_cons_self
      · exact List.mem_cons_of_mem _ (h6 hn).1
    · rcases List.mem_cons.mp hs with rfl | r
      · split <;> omega
      · have := (h6 hn).2 s r
        split <;> omega
