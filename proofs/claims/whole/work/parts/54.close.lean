/-! THE ORDER that some pairs make: the least one that holds them -/
def Tc (E : Nat → Nat → Prop) (a b : Nat) : Prop := ∀ R : Nat → Nat → Prop, (∀ x, R x x) → (∀ x y z, R x y → R y z → R x z) → (∀ x y, E x y → R x y) → R a b
theorem cl_rf (E : Nat → Nat → Prop) (a : Nat) : Tc E a a := fun _ h _ _ => h a
theorem cl_tr {E : Nat → Nat → Prop} {a b c : Nat} (h : Tc E a b) (h' : Tc E b c) : Tc E a c := fun R r t i => t a b c (h R r t i) (h' R r t i)
theorem cl_in {E : Nat → Nat → Prop} {a b : Nat} (h : E a b) : Tc E a b := fun _ _ _ i => i a b h
theorem cl_min {E R : Nat → Nat → Prop} (r : ∀ x, R x x) (t : ∀ x y z, R x y → R y z → R x z) (i : ∀ x y, E x y → R x y) {a b : Nat} (h : Tc E a b) : R a b := h R r t i
theorem cl_mono {E E' : Nat → Nat → Prop} (h : ∀ x y, E x y → Tc E' x y) {a b : Nat} (hc : Tc E a b) : Tc E' a b := cl_min (cl_rf E') (fun _ _ _ => cl_tr) h hc
theorem cl_congr {E E' : Nat → Nat → Prop} (h : ∀ x y, E x y ↔ E' x y) {a b : Nat} : Tc E a b ↔ Tc E' a b :=
  ⟨cl_mono fun x y q => cl_in ((h x y).mp q), cl_mono fun x y q => cl_in ((h x y).mpr q)⟩
theorem cl_step {E : Nat → Nat → Prop} {i j x y : Nat} : Tc (fun x y => E x y ∨ (x = i ∧ y = j)) x y ↔ Tc E x y ∨ (Tc E x i ∧ Tc E j y) := by
  constructor
  · refine cl_min (R := fun x y => Tc E x y ∨ (Tc E x i ∧ Tc E j y)) (fun x => Or.inl (cl_rf E x)) ?_ ?_
    · rintro x y z (h | ⟨h, h'⟩) (k | ⟨k, k'⟩)
      · exact Or.inl (cl_tr h k)
      · exact Or.inr ⟨cl_tr h k, k'⟩
      · exact Or.inr ⟨h, cl_tr h' k⟩
      · exact Or.inr ⟨h, k'⟩
    · rintro x y (h | ⟨rfl, rfl⟩)
      · exact Or.inl (cl_in h)
      · exact Or.inr ⟨cl_rf E _, cl_rf E _⟩
  · rintro (h | ⟨h, h'⟩)
    · exact cl_mono (fun x y q => cl_in (Or.inl q)) h
    · exact cl_tr (cl_mono (fun x y q => cl_in (Or.inl q)) h) (cl_tr (cl_in (Or.inr ⟨rfl, rfl⟩)) (cl_mono (fun x y q => cl_in (Or.inl q)) h'))
/-- stage m: all that go by m -/
def wst (D : Nat → Nat → Bool) (m : Nat) : Nat → Nat → Bool := fun k j => D k j || (D k m && D m j)
def wrs (D : Nat → Nat → Bool) : Nat → Nat → Nat → Bool
  | 0 => D
  | m + 1 => wst (wrs D m) m
theorem wst_iff {D : Nat → Nat → Bool} {m k j : Nat} : wst D m k j = true ↔ D k j = true ∨ (D k m = true ∧ D m j = true) := by
  show (D k j || (D k m && D m j)) = true ↔ _
  rw [Bool.or_eq_true, Bool.and_eq_true]
theorem wrs_in {D : Nat → Nat → Bool} {k j : Nat} (h : D k j = true) : ∀ m, wrs D m k j = true
  | 0 => h
  | m + 1 => wst_iff.mpr (Or.inl (wrs_in h m))
theorem wrs_cl {n : Nat} {D : Nat → Nat → Bool} : ∀ m, m ≤ n → ∀ k j, k < n → j < n → wrs D m k j = true → Tc (fun x y => x < n ∧ y < n ∧ D x y = true) k j
  | 0, _, k, j, hk, hj, h => cl_in ⟨hk, hj, h⟩
  | m + 1, hm, k, j, hk, hj, h => by
    rcases wst_iff.mp h with h | ⟨h, h'⟩
    · exact wrs_cl m (by omega) k j hk hj h
    · exact cl_tr (wrs_cl m (by omega) k m hk (by omega) h) (wrs_cl m (by omega) m j (by omega) hj h')
theorem wrs_tr {D : Nat → Nat → Bool} : ∀ m i, i < m → ∀ k j, wrs D m k i = true → wrs D m i j = true → wrs D m k j = true
  | 0, i, hi, _, _, _, _ => by omega
  | m + 1, i, hi, k, j, h, h' => by
    have ih := fun i hi => wrs_tr (D := D) m i hi
    rw [wrs, wst_iff] at h h' ⊢
    rcases Nat.lt_or_ge i m with q | q
    · rcases h with h | ⟨h, h1⟩ <;> rcases h' with h' | ⟨h', h2⟩
      · exact Or.inl (ih i q k j h h')
      · exact Or.inr ⟨ih i q k m h h', h2⟩
      · exact Or.inr ⟨h, ih i q m j h1 h'⟩
      · exact Or.inr ⟨h, h2⟩
    · have : i = m := by omega
      subst this
      have h : wrs D i k i = true := by rcases h with h | ⟨h, -⟩ <;> exact h
      have h' : wrs D i i j = true := by rcases h' with h' | ⟨-, h'⟩ <;> exact h'
      exact Or.inr ⟨h, h'⟩
theorem wrs_iff {n : Nat} {D : Nat → Nat → Bool} (hr : ∀ k, k < n → D k k = true) {a b : Nat} (ha : a < n) (hb : b < n) : wrs D n a b = true ↔ Tc (fun x y => x < n ∧ y < n ∧ D x y = true) a b := by
  constructor
  · exact wrs_cl n (Nat.le_refl n) a b ha hb
  · intro h
    rcases cl_min (R := fun x y => x = y ∨ (x < n ∧ y < n ∧ wrs D n x y = true)) (fun x => Or.inl rfl) (by
      rintro x y z (rfl | ⟨h1, h2, h3⟩) (rfl | ⟨k1, k2, k3⟩)
      · exact Or.inl rfl
      · exact Or.inr ⟨k1, k2, k3⟩
      · exact Or.inr ⟨h1, h2, h3⟩
      · exact Or.inr ⟨h1, k2, wrs_tr n y h2 x z h3 k3⟩) (fun x y q => Or.inr ⟨q.1, q.2.1, wrs_in q.2.2 n⟩) h with rfl | q
    · exact wrs_in (hr a ha) n
    · exact q.2.2
