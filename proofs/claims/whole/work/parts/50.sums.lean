/-! SUMS over 0 .. n-1, of whole numbers and of fractions; how many; the least one -/
def sQ : Nat → (Nat → Rat) → Rat
  | 0, _ => 0
  | n + 1, f => sQ n f + f n
def sZ : Nat → (Nat → Int) → Int
  | 0, _ => 0
  | n + 1, f => sZ n f + f n
def cN : Nat → (Nat → Bool) → Nat
  | 0, _ => 0
  | n + 1, p => cN n p + (if p n then 1 else 0)
theorem sQ_congr {f g : Nat → Rat} : ∀ n, (∀ k, k < n → f k = g k) → sQ n f = sQ n g
  | 0, _ => rfl
  | n + 1, h => by
    show sQ n f + f n = sQ n g + g n
    rw [sQ_congr n (fun k hk => h k (by omega)), h n (by omega)]
theorem sZ_congr {f g : Nat → Int} : ∀ n, (∀ k, k < n → f k = g k) → sZ n f = sZ n g
  | 0, _ => rfl
  | n + 1, h => by
    show sZ n f + f n = sZ n g + g n
    rw [sZ_congr n (fun k hk => h k (by omega)), h n (by omega)]
theorem cN_congr {f g : Nat → Bool} : ∀ n, (∀ k, k < n → f k = g k) → cN n f = cN n g
  | 0, _ => rfl
  | n + 1, h => by
    show cN n f + _ = cN n g + _
    rw [cN_congr n (fun k hk => h k (by omega)), h n (by omega)]
theorem sQ_add (f g : Nat → Rat) : ∀ n, sQ n (fun k => f k + g k) = sQ n f + sQ n g
  | 0 => by show (0 : Rat) = 0 + 0; grind
  | n + 1 => by
    show sQ n (fun k => f k + g k) + (f n + g n) = (sQ n f + f n) + (sQ n g + g n)
    rw [sQ_add f g n]; grind
theorem sZ_add (f g : Nat → Int) : ∀ n, sZ n (fun k => f k + g k) = sZ n f + sZ n g
  | 0 => rfl
  | n + 1 => by
    show sZ n (fun k => f k + g k) + (f n + g n) = (sZ n f + f n) + (sZ n g + g n)
    rw [sZ_add f g n]; omega
theorem sQ_mul (a : Rat) (f : Nat → Rat) : ∀ n, sQ n (fun k => a * f k) = a * sQ n f
  | 0 => by show (0 : Rat) = a * 0; grind
  | n + 1 => by
    show sQ n (fun k => a * f k) + a * f n = a * (sQ n f + f n)
    rw [sQ_mul a f n]; grind
theorem sZ_mul (a : Int) (f : Nat → Int) : ∀ n, sZ n (fun k => a * f k) = a * sZ n f
  | 0 => by show (0 : Int) = a * 0; omega
  | n + 1 => by
    show sZ n (fun k => a * f k) + a * f n = a * (sZ n f + f n)
    rw [sZ_mul a f n]; grind
theorem sQ_zero : ∀ n, sQ n (fun _ => 0) = 0
  | 0 => rfl
  | n + 1 => by show sQ n (fun _ => 0) + 0 = 0; rw [sQ_zero n]; grind
theorem sZ_zero : ∀ n, sZ n (fun _ => 0) = 0
  | 0 => rfl
  | n + 1 => by show sZ n (fun _ => 0) + 0 = 0; rw [sZ_zero n]; omega
theorem sQ_le {f g : Nat → Rat} : ∀ n, (∀ k, k < n → f k ≤ g k) → sQ n f ≤ sQ n g
  | 0, _ => Rat.le_refl
  | n + 1, h => by
    show sQ n f + f n ≤ sQ n g + g n
    have h1 := sQ_le n (fun k hk => h k (by omega))
    have h2 := h n (by omega)
    grind
theorem sZ_le {f g : Nat → Int} : ∀ n, (∀ k, k < n → f k ≤ g k) → sZ n f ≤ sZ n g
  | 0, _ => Int.le_refl 0
  | n + 1, h => by
    show sZ n f + f n ≤ sZ n g + g n
    have h1 := sZ_le n (fun k hk => h k (by omega))
    have h2 := h n (by omega)
    omega
theorem sQ_nonneg {f : Nat → Rat} (n : Nat) (h : ∀ k, k < n → 0 ≤ f k) : 0 ≤ sQ n f := by
  have := sQ_le n h; rw [sQ_zero] at this; exact this
theorem sZ_nonneg {f : Nat → Int} (n : Nat) (h : ∀ k, k < n → 0 ≤ f k) : 0 ≤ sZ n f := by
  have := sZ_le n h; rw [sZ_zero] at this; exact this
theorem sQ_neg (f : Nat → Rat) (n : Nat) : sQ n (fun k => - f k) = - sQ n f := by
  have h := sQ_mul (-1) f n
  rw [show (fun k => - f k) = (fun k => -1 * f k) from funext fun k => by grind, h]; grind
theorem sZ_neg (f : Nat → Int) (n : Nat) : sZ n (fun k => - f k) = - sZ n f := by
  have h := sZ_mul (-1) f n
  rw [show (fun k => - f k) = (fun k => -1 * f k) from funext fun k => by grind, h]; omega
theorem sQ_sub (f g : Nat → Rat) (n : Nat) : sQ n (fun k => f k - g k) = sQ n f - sQ n g := by
  have h := sQ_add f (fun k => - g k) n
  rw [sQ_neg] at h
  rw [show (fun k => f k - g k) = (fun k => f k + - g k) from funext fun k => by grind, h]; grind
theorem sZ_sub (f g : Nat → Int) (n : Nat) : sZ n (fun k => f k - g k) = sZ n f - sZ n g := by
  have h := sZ_add f (fun k => - g k) n
  rw [sZ_neg] at h
  rw [show (fun k => f k - g k) = (fun k => f k + - g k) from funext fun k => by grind, h]; omega
/-- terms that are not below 0, together not above 0: each is 0 -/
theorem sQ_eq0 {f : Nat → Rat} : ∀ n, (∀ k, k < n → 0 ≤ f k) → sQ n f ≤ 0 → ∀ k, k < n → f k = 0
  | 0, _, _, k, hk => by omega
  | n + 1, h, hs, k, hk => by
    have hs : sQ n f + f n ≤ 0 := hs
    have h1 := sQ_nonneg n (fun k hk => h k (by omega))
    have h2 := h n (by omega)
    rcases Nat.lt_or_ge k n with q | q
    · exact sQ_eq0 n (fun k hk => h k (by omega)) (by grind) k q
    · have : k = n := by omega
      subst this; grind
theorem sZ_eq0 {f : Nat → Int} : ∀ n, (∀ k, k < n → 0 ≤ f k) → sZ n f ≤ 0 → ∀ k, k < n → f k = 0
  | 0, _, _, k, hk => by omega
  | n + 1, h, hs, k, hk => by
    have hs : sZ n f + f n ≤ 0 := hs
    have h1 := sZ_nonneg n (fun k hk => h k (by omega))
    have h2 := h n (by omega)
    rcases Nat.lt_or_ge k n with q | q
    · exact sZ_eq0 n (fun k hk => h k (by omega)) (by omega) k q
    · have : k = n := by omega
      subst this; omega
theorem sZ_swap (f : Nat → Nat → Int) (m : Nat) : ∀ n, sZ n (fun a => sZ m (f a)) = sZ m (fun b => sZ n (fun a => f a b))
  | 0 => (sZ_zero m).symm
  | n + 1 => by
    show sZ n (fun a => sZ m (f a)) + sZ m (f n) = sZ m (fun b => sZ n (fun a => f a b) + f n b)
    rw [sZ_swap f m n, sZ_add]
theorem sQ_cast (f : Nat → Int) : ∀ n, sQ n (fun k => (f k : Rat)) = ((sZ n f : Int) : Rat)
  | 0 => rfl
  | n + 1 => by
    show sQ n (fun k => (f k : Rat)) + (f n : Rat) = ((sZ n f + f n : Int) : Rat)
    rw [sQ_cast f n]; grind
/-- one term apart -/
theorem sZ_one (f : Nat → Int) : ∀ n, ∀ k, k < n → sZ n f = f k + sZ n (fun j => if j = k then 0 else f j)
  | 0, k, hk => by omega
  | n + 1, k, hk => by
    show sZ n f + f n = f k + (sZ n (fun j => if j = k then 0 else f j) + (if n = k then 0 else f n))
    rcases Nat.lt_or_ge k n with q | q
    · rw [sZ_one f n k q, if_neg (by omega)]; omega
    · have : k = n := by omega
      subst this
      rw [if_pos rfl, sZ_congr k (f := fun j => if j = k then 0 else f j) (g := f) (fun j hj => by rw [if_neg (by omega)])]; omega
theorem sZ_mem {f : Nat → Int} {n k : Nat} (h : ∀ k, k < n → 0 ≤ f k) (hk : k < n) : f k ≤ sZ n f := by
  rw [sZ_one f n k hk]
  have := sZ_nonneg (f := fun j => if j = k then 0 else f j) n (fun j hj => by
    by_cases q : j = k
    · simp [q]
    · simp [q]; exact h j hj)
  omega
/-! how many -/
theorem cN_le {p q : Nat → Bool} : ∀ n, (∀ k, k < n → p k = true → q k = true) → cN n p ≤ cN n q
  | 0, _ => Nat.le_refl 0
  | n + 1, h => by
    show cN n p + _ ≤ cN n q + _
    have h1 := cN_le n (fun k hk => h k (by omega))
    have h2 := h n (by omega)
    cases hp : p n
    · simp; omega
    · simp [h2 hp]; omega
theorem cN_lt {p q : Nat → Bool} : ∀ n, (∀ k, k < n → p k = true → q k = true) → (∃ k, k < n ∧ p k = false ∧ q k = true) → cN n p < cN n q
  | 0, _, ⟨k, hk, _⟩ => by omega
  | n + 1, h, ⟨k, hk, h1, h2⟩ => by
    show cN n p + _ < cN n q + _
    have h3 := h n (by omega)
    rcases Nat.lt_or_ge k n with e | e
    · have := cN_lt n (fun k hk => h k (by omega)) ⟨k, e, h1, h2⟩
      cases hp : p n
      · simp; omega
      · simp [h3 hp]; omega
    · have : k = n := by omega
      subst this
      have := cN_le k (fun j hj => h j (by omega))
      simp [h1, h2]; omega
theorem cN_max (p : Nat → Bool) : ∀ n, cN n p ≤ n
  | 0 => Nat.le_refl 0
  | n + 1 => by
    show cN n p + _ ≤ n + 1
    have := cN_max p n
    split <;> omega
theorem cN_eq0 {p : Nat → Bool} : ∀ n, cN n p = 0 → ∀ k, k < n → p k = false
  | 0, _, k, hk => by omega
  | n + 1, h, k, hk => by
    have h : cN n p + (if p n then 1 else 0) = 0 := h
    rcases Nat.lt_or_ge k n with e | e
    · exact cN_eq0 n (by omega) k e
    · have : k = n := by omega
      subst this
      cases hp : p k
      · rfl
      · rw [hp] at h; simp at h
theorem cN_0 {p : Nat → Bool} : ∀ n, (∀ k, k < n → p k = false) → cN n p = 0
  | 0, _ => rfl
  | n + 1, h => by
    show cN n p + _ = 0
    rw [cN_0 n (fun k hk => h k (by omega)), h n (by omega)]; rfl
/-! the least of some -/
theorem minQ (p : Nat → Bool) (f : Nat → Rat) : ∀ n, (∃ k, k < n ∧ p k = true) → ∃ k, k < n ∧ p k = true ∧ ∀ j, j < n → p j = true → f k ≤ f j
  | 0, ⟨k, hk, _⟩ => by omega
  | n + 1, ⟨k, hk, hp⟩ => by
    by_cases hn : ∃ k, k < n ∧ p k = true
    · obtain ⟨i, h1, h2, h3⟩ := minQ p f n hn
      by_cases hq : p n = true ∧ f n < f i
      · refine ⟨n, by omega, hq.1, fun j hj hpj => ?_⟩
        rcases Nat.lt_or_ge j n with e | e
        · have := h3 j e hpj; have := hq.2; grind
        · have : j = n := by omega
          subst this; exact Rat.le_refl
      · refine ⟨i, by omega, h2, fun j hj hpj => ?_⟩
        rcases Nat.lt_or_ge j n with e | e
        · exact h3 j e hpj
        · have : j = n := by omega
          subst this
          rcases Classical.em (f j < f i) with q | q
          · exact absurd ⟨hpj, q⟩ hq
          · grind
    · refine ⟨k, hk, hp, fun j hj hpj => ?_⟩
      have hj2 : j = n := by
        rcases Nat.lt_or_ge j n with e | e
        · exact absurd ⟨j, e, hpj⟩ hn
        · omega
      have hk2 : k = n := by
        rcases Nat.lt_or_ge k n with e | e
        · exact absurd ⟨k, e, hp⟩ hn
        · omega
      rw [hj2, hk2]; exact Rat.le_refl
