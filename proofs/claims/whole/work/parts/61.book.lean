/-! A BOOK as values: marks (how many, names, tops, which count), cases (how many, judge, year, given, weight, steps), told (how many, over, under) -/
abbrev Bk : Type := (Nat × (Nat → Int64) × (Nat → Nat) × (Nat → Bool)) × (Nat × (Nat → Nat) × (Nat → Nat) × (Nat → Nat) × (Nat → Nat) × (Nat → Nat → Nat)) × (Nat × (Nat → Nat) × (Nat → Nat))
def bM (B : Bk) : Nat := B.1.1
def bNm (B : Bk) : Nat → Int64 := B.1.2.1
def bTp (B : Bk) : Nat → Nat := B.1.2.2.1
def bCt (B : Bk) : Nat → Bool := B.1.2.2.2
def bN (B : Bk) : Nat := B.2.1.1
def bJ (B : Bk) : Nat → Nat := B.2.1.2.1
def bY (B : Bk) : Nat → Nat := B.2.1.2.2.1
def bG (B : Bk) : Nat → Nat := B.2.1.2.2.2.1
def bW (B : Bk) : Nat → Nat := B.2.1.2.2.2.2.1
def bS (B : Bk) : Nat → Nat → Nat := B.2.1.2.2.2.2.2
def bT (B : Bk) : Nat := B.2.2.1
def bA (B : Bk) : Nat → Nat := B.2.2.2.1
def bU (B : Bk) : Nat → Nat := B.2.2.2.2
/-- what a book keeps to; lv: so many rows of cases hold something -/
def BkOk (lv : Nat) (B : Bk) : Prop :=
  bM B ≤ 6 ∧ (bN B ≤ lv ∧ lv ≤ 16) ∧ (∀ m, m < bM B → 1 ≤ bTp B m ∧ bTp B m ≤ 11) ∧ (∀ m, bCt B m = true → m < bM B) ∧
  (∀ c, c < lv → bJ B c ≤ 9 ∧ bY B c ≤ 99 ∧ bG B c ≤ 240 ∧ 1 ≤ bW B c ∧ bW B c ≤ 4 ∧ ∀ m, m < bM B → bS B c m ≤ bTp B m) ∧
  bT B ≤ 20 ∧ ∀ t, t < bT B → bA B t < bN B ∧ bU B t < bN B
def rowI (σ : Mem) (l n : Nat) (f : Nat → Nat) : Prop := ∀ k, k < n → σ.1 l k = nI (f k)
/-- the book's cells in the class, its object at o -/
def BkC (o lv : Nat) (B : Bk) (σ : Mem) : Prop :=
  (o = 12 ∨ o = 22) ∧ (σ.1 o 0 = nI (bM B) ∧ (∀ m, m < bM B → σ.2.1 (o + 1) m = bNm B m) ∧ rowI σ (o + 2) (bM B) (bTp B) ∧ σ.1 o 3 = sX (bCt B)) ∧
  (σ.1 o 4 = nI (bN B) ∧ rowI σ (o + 3) lv (bJ B) ∧ rowI σ (o + 4) lv (bY B) ∧ rowI σ (o + 5) lv (bG B) ∧ rowI σ (o + 6) lv (bW B) ∧ ∀ c m, c < lv → m < bM B → σ.1 (o + 7) (6 * c + m) = nI (bS B c m)) ∧
  (σ.1 o 10 = nI (bT B) ∧ rowI σ (o + 8) (bT B) (bA B) ∧ rowI σ (o + 9) (bT B) (bU B))
theorem bk_s {o : Nat} (h : o = 12 ∨ o = 22) : (shq o).1 = 1 := by rcases h with rfl | rfl <;> rfl
/-! which is over which -/
def allB : Nat → (Nat → Bool) → Bool
  | 0, _ => true
  | n + 1, p => allB n p && p n
theorem allB_iff {p : Nat → Bool} : ∀ n, allB n p = true ↔ ∀ k, k < n → p k = true
  | 0 => ⟨fun _ k hk => by omega, fun _ => rfl⟩
  | n + 1 => by
    show (allB n p && p n) = true ↔ _
    rw [Bool.and_eq_true, allB_iff n]
    constructor
    · rintro ⟨h, h'⟩ k hk
      rcases Nat.lt_or_ge k n with q | q
      · exact h k q
      · have : k = n := by omega
        subst this; exact h'
    · exact fun h => ⟨fun k hk => h k (by omega), h n (by omega)⟩
def nl (mk : Nat) (p : Nat → Bool) (s t : Nat → Nat) : Bool := allB mk (fun m => !p m || decide (t m ≤ s m))
def nlB (B : Bk) (p : Nat → Bool) (a b : Nat) : Bool := nl (bM B) p (bS B a) (bS B b)
theorem nl_iff {mk : Nat} {p : Nat → Bool} {s t : Nat → Nat} : nl mk p s t = true ↔ ∀ m, m < mk → p m = true → t m ≤ s m := by
  rw [nl, allB_iff]
  constructor
  · intro h m hm hp
    have := h m hm
    rw [hp] at this; simpa using this
  · intro h m hm
    cases hp : p m
    · rfl
    · simpa using h m hm hp
theorem nl_rf (mk : Nat) (p : Nat → Bool) (s : Nat → Nat) : nl mk p s s = true := nl_iff.mpr fun _ _ _ => Nat.le_refl _
theorem nl_tr {mk : Nat} {p : Nat → Bool} {s t u : Nat → Nat} (h : nl mk p s t = true) (h' : nl mk p t u = true) : nl mk p s u = true :=
  nl_iff.mpr fun m hm hp => Nat.le_trans (nl_iff.mp h' m hm hp) (nl_iff.mp h m hm hp)
def ovE (B : Bk) (p : Nat → Bool) (t : Nat) (x y : Nat) : Prop := (x < bN B ∧ y < bN B ∧ nlB B p x y = true) ∨ ∃ k, k < t ∧ x = bA B k ∧ y = bU B k
noncomputable def oV (B : Bk) (p : Nat → Bool) (t : Nat) (a b : Nat) : Bool := @decide (a < bN B ∧ b < bN B ∧ Tc (ovE B p t) a b) (Classical.propDecidable _)
theorem oV_iff {B : Bk} {p : Nat → Bool} {t a b : Nat} : oV B p t a b = true ↔ a < bN B ∧ b < bN B ∧ Tc (ovE B p t) a b := by
  rw [oV, @decide_eq_true_iff _ (Classical.propDecidable _)]
theorem oV_rf {B : Bk} {p : Nat → Bool} {t a : Nat} (ha : a < bN B) : oV B p t a a = true := oV_iff.mpr ⟨ha, ha, cl_rf _ a⟩
theorem oV_tr {B : Bk} {p : Nat → Bool} {t a b c : Nat} (h : oV B p t a b = true) (h' : oV B p t b c = true) : oV B p t a c = true :=
  oV_iff.mpr ⟨(oV_iff.mp h).1, (oV_iff.mp h').2.1, cl_tr (oV_iff.mp h).2.2 (oV_iff.mp h').2.2⟩
theorem bool_eq {a b : Bool} (h : a = true ↔ b = true) : a = b := by cases a <;> cases b <;> simp_all
theorem oV_0 (B : Bk) (p : Nat → Bool) (a b : Nat) : oV B p 0 a b = (decide (a < bN B) && (decide (b < bN B) && nlB B p a b)) := by
  apply bool_eq
  rw [oV_iff, Bool.and_eq_true, Bool.and_eq_true, decide_eq_true_eq, decide_eq_true_eq]
  constructor
  · rintro ⟨ha, hb, h⟩
    refine ⟨ha, hb, ?_⟩
    have := cl_min (R := fun x y => x = y ∨ nlB B p x y = true) (fun x => Or.inl rfl) (by
      rintro x y z (rfl | h1) (rfl | h2)
      · exact Or.inl rfl
      · exact Or.inr h2
      · exact Or.inr h1
      · exact Or.inr (nl_tr h1 h2)) (by
      rintro x y (h | ⟨k, hk, _⟩)
      · exact Or.inr h.2.2
      · omega) h
    rcases this with rfl | q
    · exact nl_rf _ _ _
    · exact q
  · rintro ⟨ha, hb, h⟩
    exact ⟨ha, hb, cl_in (Or.inl ⟨ha, hb, h⟩)⟩
theorem oV_s {B : Bk} {p : Nat → Bool} {t : Nat} (hA : bA B t < bN B) (hU : bU B t < bN B) (a b : Nat) : oV B p (t + 1) a b = (oV B p t a b || (oV B p t a (bA B t) && oV B p t (bU B t) b)) := by
  apply bool_eq
  rw [Bool.or_eq_true, Bool.and_eq_true, oV_iff, oV_iff, oV_iff, oV_iff]
  have e : ∀ x y, ovE B p (t + 1) x y ↔ ovE B p t x y ∨ (x = bA B t ∧ y = bU B t) := by
    intro x y
    constructor
    · rintro (h | ⟨k, hk, h⟩)
      · exact Or.inl (Or.inl h)
      · rcases Nat.lt_or_ge k t with q | q
        · exact Or.inl (Or.inr ⟨k, q, h⟩)
        · have : k = t := by omega
          subst this; exact Or.inr h
    · rintro ((h | ⟨k, hk, h⟩) | h)
      · exact Or.inl h
      · exact Or.inr ⟨k, by omega, h⟩
      · exact Or.inr ⟨t, by omega, h⟩
  rw [cl_congr e, cl_step]
  constructor
  · rintro ⟨ha, hb, h | ⟨h, h'⟩⟩
    · exact Or.inl ⟨ha, hb, h⟩
    · exact Or.inr ⟨⟨ha, hA, h⟩, ⟨hU, hb, h'⟩⟩
  · rintro (⟨ha, hb, h⟩ | ⟨⟨ha, _, h⟩, ⟨_, hb, h'⟩⟩)
    · exact ⟨ha, hb, Or.inl h⟩
    · exact ⟨ha, hb, Or.inr ⟨h, h'⟩⟩
/-- the first of n, or -1 -/
def fsT : Nat → (Nat → Bool) → Int
  | 0, _ => -1
  | n + 1, f => if 0 ≤ fsT n f then fsT n f else if f n = true then n else -1
/-! loops -/
theorem loopN {P : Nat → Prop} (n : Nat) (he : P n) (hs : ∀ i, i < n → P (i + 1) → P i) : P 0 := by
  have : ∀ j i, i + j = n → P i := by
    intro j
    induction j with
    | zero => intro i hi; have : i = n := by omega
              rw [this]; exact he
    | succ j ih => intro i hi; exact hs i (by omega) (ih (i + 1) (by omega))
  exact this n 0 (by omega)
theorem loopS {α : Type} {I : Nat → α → Prop} {P : Nat → α → Prop} (n : Nat) (he : ∀ s, I n s → P n s) (hs : ∀ i s, i < n → I i s → (∀ s', I (i + 1) s' → P (i + 1) s') → P i s) : ∀ s, I 0 s → P 0 s := by
  have : ∀ j i, i + j = n → ∀ s, I i s → P i s := by
    intro j
    induction j with
    | zero => intro i hi; have : i = n := by omega
              rw [this]; exact he
    | succ j ih => intro i hi s h; exact hs i s (by omega) h (ih (i + 1) (by omega))
  exact this n 0 (by omega)
theorem ro {Θ : Th} {d mi : Nat} {as : List Value} {σ : Mem} {q : Int32 → Mem → Prop} {x : Int32} (h : Ci Θ d mi as σ (fun v σ' => σ' = σ ∧ v = x)) (k : q x σ) : Ci Θ d mi as σ q :=
  h.mono (by rintro v σ' ⟨rfl, rfl⟩; exact k)
theorem roL {Θ : Th} {d mi : Nat} {as : List Value} {σ : Mem} {q : Int64 → Mem → Prop} {x : Int64} (h : Cl Θ d mi as σ (fun v σ' => σ' = σ ∧ v = x)) (k : q x σ) : Cl Θ d mi as σ q :=
  h.mono (by rintro v σ' ⟨rfl, rfl⟩; exact k)
