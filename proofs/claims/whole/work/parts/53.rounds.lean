/-! HOW MANY ROUNDS of payments there can be: each goes by a shortest way, and something falls with each -/
def exB : Nat → (Nat → Bool) → Bool
  | 0, _ => false
  | n + 1, p => exB n p || p n
theorem exB_iff {p : Nat → Bool} : ∀ n, exB n p = true ↔ ∃ k, k < n ∧ p k = true
  | 0 => ⟨fun h => (by cases h), fun ⟨k, hk, _⟩ => (by omega)⟩
  | n + 1 => by
    show (exB n p || p n) = true ↔ _
    rw [Bool.or_eq_true, exB_iff n]
    constructor
    · rintro (⟨k, hk, h⟩ | h)
      · exact ⟨k, by omega, h⟩
      · exact ⟨n, by omega, h⟩
    · rintro ⟨k, hk, h⟩
      rcases Nat.lt_or_ge k n with q | q
      · exact Or.inl ⟨k, q, h⟩
      · have : k = n := by omega
        subst this; exact Or.inr h
/-- reached in k steps at most -/
def lev (n : Nat) (ov : Nat → Nat → Bool) (P O : Nat → Bool) (lf : Nat → Int) (pd : Nat → Nat → Int) : Nat → Nat → Bool
  | 0, v => P v && decide (0 < lf v)
  | k + 1, v => lev n ov P O lf pd k v || (O v && exB n (fun p => P p && lev n ov P O lf pd k p && ov v p)) || (P v && exB n (fun o => O o && lev n ov P O lf pd k o && decide (pd v o ≠ 0)))
section lev
variable {n : Nat} {ov : Nat → Nat → Bool} {P O : Nat → Bool} {lf lf' : Nat → Int} {pd pd' : Nat → Nat → Int}
theorem lev_0 {v : Nat} : lev n ov P O lf pd 0 v = true ↔ P v = true ∧ 0 < lf v := by
  show (P v && decide (0 < lf v)) = true ↔ _
  rw [Bool.and_eq_true, decide_eq_true_eq]
theorem lev_s {k v : Nat} : lev n ov P O lf pd (k + 1) v = true ↔ lev n ov P O lf pd k v = true ∨ (O v = true ∧ ∃ p, p < n ∧ P p = true ∧ lev n ov P O lf pd k p = true ∧ ov v p = true) ∨ (P v = true ∧ ∃ o, o < n ∧ O o = true ∧ lev n ov P O lf pd k o = true ∧ pd v o ≠ 0) := by
  show (lev n ov P O lf pd k v || (O v && exB n (fun p => P p && lev n ov P O lf pd k p && ov v p)) || (P v && exB n (fun o => O o && lev n ov P O lf pd k o && decide (pd v o ≠ 0)))) = true ↔ _
  rw [Bool.or_eq_true, Bool.or_eq_true, Bool.and_eq_true, Bool.and_eq_true, exB_iff, exB_iff]
  constructor
  · rintro ((h | ⟨h, p, hp, q⟩) | ⟨h, o, ho, q⟩)
    · exact Or.inl h
    · rw [Bool.and_eq_true, Bool.and_eq_true] at q
      exact Or.inr (Or.inl ⟨h, p, hp, q.1.1, q.1.2, q.2⟩)
    · rw [Bool.and_eq_true, Bool.and_eq_true, decide_eq_true_eq] at q
      exact Or.inr (Or.inr ⟨h, o, ho, q.1.1, q.1.2, q.2⟩)
  · rintro (h | ⟨h, p, hp, q1, q2, q3⟩ | ⟨h, o, ho, q1, q2, q3⟩)
    · exact Or.inl (Or.inl h)
    · exact Or.inl (Or.inr ⟨h, p, hp, by rw [q1, q2, q3]; rfl⟩)
    · exact Or.inr ⟨h, o, ho, by rw [q1, q2, decide_eq_true q3]; rfl⟩
theorem lev_up {k j v : Nat} (h : k ≤ j) (hk : lev n ov P O lf pd k v = true) : lev n ov P O lf pd j v = true := by
  induction h with
  | refl => exact hk
  | step _ ih => exact lev_s.mpr (Or.inl ih)
/-- a round: what is reached behind it was reached no later ahead of it -/
theorem lev_mono (h1 : ∀ v, P v = true → 0 < lf' v → 0 < lf v) (h2 : ∀ p o, p < n → o < n → P p = true → O o = true → pd' p o ≠ 0 → pd p o ≠ 0 ∨ ∀ k, lev n ov P O lf pd k o = true → ∃ j, k = j + 1 ∧ lev n ov P O lf pd j p = true) :
    ∀ k v, v < n → lev n ov P O lf' pd' k v = true → lev n ov P O lf pd k v = true := by
  intro k
  induction k with
  | zero => intro v _ h; have := lev_0.mp h; exact lev_0.mpr ⟨this.1, h1 v this.1 this.2⟩
  | succ k ih =>
    intro v hv h
    rcases lev_s.mp h with h | ⟨h, p, hp, q1, q2, q3⟩ | ⟨h, o, ho, q1, q2, q3⟩
    · exact lev_s.mpr (Or.inl (ih v hv h))
    · exact lev_s.mpr (Or.inr (Or.inl ⟨h, p, hp, q1, ih p hp q2, q3⟩))
    · rcases h2 v o hv ho h q1 q3 with e | e
      · exact lev_s.mpr (Or.inr (Or.inr ⟨h, o, ho, q1, ih o ho q2, e⟩))
      · obtain ⟨j, hj, hl⟩ := e k (ih o ho q2)
        exact lev_up (by omega) hl
end lev
theorem cN_shift (p : Nat → Bool) : ∀ n, cN (n + 1) p = (if p 0 then 1 else 0) + cN n (fun k => p (k + 1))
  | 0 => Nat.zero_add _
  | n + 1 => by
    show cN (n + 1) p + (if p (n + 1) = true then 1 else 0) = (if p 0 = true then 1 else 0) + (cN n (fun k => p (k + 1)) + (if p (n + 1) = true then 1 else 0))
    rw [cN_shift p n, Nat.add_assoc]
/-- how far: 40 for what can't be reached -/
def dst (l : Nat → Bool) : Nat := cN 40 (fun k => !l k)
theorem dst_le {l l' : Nat → Bool} (h : ∀ k, l' k = true → l k = true) : dst l ≤ dst l' :=
  cN_le 40 fun k _ hk => by
    cases q : l' k
    · rfl
    · rw [h k q] at hk; cases hk
theorem dst_lt {l m : Nat → Bool} (h39 : l 39 = true) (h : ∀ k, m k = true → ∃ j, k = j + 1 ∧ l j = true) : dst l + 1 ≤ dst m := by
  have e1 : dst m = (if (!m 0) = true then 1 else 0) + cN 39 (fun k => !m (k + 1)) := cN_shift (fun k => !m k) 39
  have e2 : dst l = cN 39 (fun k => !l k) := by
    show cN 39 (fun k => !l k) + (if (!l 39) = true then 1 else 0) = _
    rw [h39]; simp
  have e3 : m 0 = false := by
    cases q : m 0
    · rfl
    · obtain ⟨j, hj, -⟩ := h 0 q; omega
  have e4 : cN 39 (fun k => !l k) ≤ cN 39 (fun k => !m (k + 1)) := cN_le 39 fun k _ hk => by
    cases q : m (k + 1)
    · rfl
    · obtain ⟨j, hj, hl⟩ := h (k + 1) q
      have : j = k := by omega
      rw [this] at hl
      rw [hl] at hk; cases hk
  rw [e1, e2, e3]; simp; omega
def sN : Nat → (Nat → Nat) → Nat
  | 0, _ => 0
  | n + 1, f => sN n f + f n
theorem sN_le {f g : Nat → Nat} : ∀ n, (∀ k, k < n → f k ≤ g k) → sN n f ≤ sN n g
  | 0, _ => Nat.le_refl 0
  | n + 1, h => by
    show sN n f + f n ≤ sN n g + g n
    have h1 := sN_le n (fun k hk => h k (by omega))
    have h2 := h n (by omega)
    omega
theorem sN_lt {f g : Nat → Nat} : ∀ n, (∀ k, k < n → f k ≤ g k) → (∃ k, k < n ∧ f k < g k) → sN n f < sN n g
  | 0, _, ⟨k, hk, _⟩ => by omega
  | n + 1, h, ⟨k, hk, hl⟩ => by
    show sN n f + f n < sN n g + g n
    have h1 := sN_le n (fun k hk => h k (by omega))
    have h2 := h n (by omega)
    rcases Nat.lt_or_ge k n with q | q
    · have := sN_lt n (fun k hk => h k (by omega)) ⟨k, q, hl⟩
      omega
    · have : k = n := by omega
      subst this; omega
theorem sN_b {f : Nat → Nat} {b : Nat} : ∀ n, (∀ k, k < n → f k ≤ b) → sN n f ≤ n * b
  | 0, _ => Nat.zero_le _
  | n + 1, h => by
    show sN n f + f n ≤ (n + 1) * b
    have h1 := sN_b n (fun k hk => h k (by omega))
    have h2 := h n (by omega)
    rw [Nat.succ_mul]; omega
def pot (n : Nat) (ov : Nat → Nat → Bool) (P O : Nat → Bool) (lf : Nat → Int) (pd : Nat → Nat → Int) : Nat :=
  sN n (fun p => sN n (fun o => 40 - dst (fun k => lev n ov P O lf pd k (if pd p o ≠ 0 then o else p)))) + cN n (fun v => decide (0 < lf v))
theorem pot_le (n : Nat) (ov : Nat → Nat → Bool) (P O : Nat → Bool) (lf : Nat → Int) (pd : Nat → Nat → Int) : pot n ov P O lf pd ≤ n * (n * 40) + n := by
  have h1 : sN n (fun p => sN n (fun o => 40 - dst (fun k => lev n ov P O lf pd k (if pd p o ≠ 0 then o else p)))) ≤ n * (n * 40) := sN_b n fun p _ => sN_b n fun o _ => Nat.sub_le _ _
  have h2 := cN_max (fun v => decide (0 < lf v)) n
  show _ + _ ≤ _
  omega
/-- a round lowers pot. fw: the pairs by which it went forth, bw: those by which it went back -/
theorem pot_lt {n : Nat} {ov : Nat → Nat → Bool} {P O : Nat → Bool} {lf lf' : Nat → Int} {pd pd' : Nat → Nat → Int} (hl : ∀ v, v < n → 0 < lf' v → 0 < lf v) (hlP : ∀ v, P v = true → 0 < lf' v → 0 < lf v)
    (hPO : ∀ p o, p < n → o < n → pd' p o ≠ 0 ∨ pd p o ≠ 0 → P p = true ∧ O o = true)
    (fw : ∀ p o, p < n → o < n → pd p o = 0 → pd' p o ≠ 0 → lev n ov P O lf pd 39 p = true ∧ ∀ k, lev n ov P O lf pd k o = true → ∃ j, k = j + 1 ∧ lev n ov P O lf pd j p = true)
    (bw : ∀ p o, p < n → o < n → pd p o ≠ 0 → pd' p o = 0 → lev n ov P O lf pd 39 o = true ∧ ∀ k, lev n ov P O lf pd k p = true → ∃ j, k = j + 1 ∧ lev n ov P O lf pd j o = true)
    (some : (∃ v, v < n ∧ 0 < lf v ∧ ¬ 0 < lf' v) ∨ ∃ p o, p < n ∧ o < n ∧ pd p o ≠ 0 ∧ pd' p o = 0) : pot n ov P O lf' pd' < pot n ov P O lf pd := by
  have hm := lev_mono (n := n) (ov := ov) (P := P) (O := O) (lf := lf) (lf' := lf') (pd := pd) (pd' := pd') hlP (fun p o hp ho _ _ h => by
    rcases Decidable.em (pd p o = 0) with q | q
    · exact Or.inr (fw p o hp ho q h).2
    · exact Or.inl q)
  have hd : ∀ v, v < n → dst (fun k => lev n ov P O lf pd k v) ≤ dst (fun k => lev n ov P O lf' pd' k v) := fun v hv => dst_le fun k => hm k v hv
  have cell : ∀ p o, p < n → o < n → 40 - dst (fun k => lev n ov P O lf' pd' k (if pd' p o ≠ 0 then o else p)) ≤ 40 - dst (fun k => lev n ov P O lf pd k (if pd p o ≠ 0 then o else p)) := by
    intro p o hp ho
    by_cases q : pd p o = 0 <;> by_cases q' : pd' p o = 0
    · simp only [q, q', ne_eq, not_true_eq_false, if_false]; have := hd p hp; omega
    · simp only [q, q', ne_eq, not_true_eq_false, not_false_eq_true, if_false, if_true]
      have h1 := fw p o hp ho q q'
      have := dst_lt (l := fun k => lev n ov P O lf pd k p) (m := fun k => lev n ov P O lf pd k o) h1.1 h1.2
      have := hd o ho; omega
    · simp only [q, q', ne_eq, not_true_eq_false, not_false_eq_true, if_false, if_true]
      have h1 := bw p o hp ho q q'
      have := dst_lt (l := fun k => lev n ov P O lf pd k o) (m := fun k => lev n ov P O lf pd k p) h1.1 h1.2
      have := hd p hp; omega
    · simp only [q, q', ne_eq, not_false_eq_true, if_true]; have := hd o ho; omega
  have hrow : ∀ p, p < n → sN n (fun o => 40 - dst (fun k => lev n ov P O lf' pd' k (if pd' p o ≠ 0 then o else p))) ≤ sN n (fun o => 40 - dst (fun k => lev n ov P O lf pd k (if pd p o ≠ 0 then o else p))) := fun p hp => sN_le n fun o ho => cell p o hp ho
  have hA := sN_le n hrow
  have hB : cN n (fun v => decide (0 < lf' v)) ≤ cN n (fun v => decide (0 < lf v)) := cN_le n fun v hv h => decide_eq_true (hl v hv (of_decide_eq_true h))
  show sN n _ + cN n _ < sN n _ + cN n _
  rcases some with ⟨v, hv, h1, h2⟩ | ⟨p, o, hp, ho, q, q'⟩
  · have := cN_lt (p := fun v => decide (0 < lf' v)) (q := fun v => decide (0 < lf v)) n (fun v hv h => decide_eq_true (hl v hv (of_decide_eq_true h))) ⟨v, hv, decide_eq_false h2, decide_eq_true h1⟩
    omega
  · have h1 := bw p o hp ho q q'
    have h2 := dst_lt (l := fun k => lev n ov P O lf pd k o) (m := fun k => lev n ov P O lf pd k p) h1.1 h1.2
    have h3 := hd p hp
    have h4 : dst (fun k => lev n ov P O lf pd k o) < 40 := by
      have : dst (fun k => lev n ov P O lf pd k o) = cN 39 (fun k => !lev n ov P O lf pd k o) := by
        show cN 39 _ + (if (!lev n ov P O lf pd 39 o) = true then 1 else 0) = _
        rw [h1.1]; simp
      have := cN_max (fun k => !lev n ov P O lf pd k o) 39
      omega
    have h5 := sN_lt n hrow ⟨p, hp, sN_lt n (fun o ho => cell p o hp ho) ⟨o, ho, by
      simp only [q, q', ne_eq, not_true_eq_false, not_false_eq_true, if_false, if_true]; omega⟩⟩
    omega
