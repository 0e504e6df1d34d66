/-! GAPS of cases that clash. D: which is over which, g: what was given -/
def gO (D : Nat → Nat → Bool) (g : Nat → Nat) (a b : Nat) : Nat := if D a b = true ∧ g a < g b then g b - g a else 0
def gp (D : Nat → Nat → Bool) (g : Nat → Nat) (a b : Nat) : Nat := gO D g a b + gO D g b a
theorem gO_0 (D : Nat → Nat → Bool) (g : Nat → Nat) (a : Nat) : gO D g a a = 0 := by simp [gO]
theorem gp_sym (D : Nat → Nat → Bool) (g : Nat → Nat) (a b : Nat) : gp D g a b = gp D g b a := Nat.add_comm _ _
theorem gp_one (D : Nat → Nat → Bool) (g : Nat → Nat) (a b : Nat) : gO D g a b = 0 ∨ gO D g b a = 0 := by
  unfold gO
  by_cases h : g a < g b
  · right; rw [if_neg]; rintro ⟨-, h'⟩; omega
  · left; rw [if_neg]; rintro ⟨-, h'⟩; omega
theorem gO_le {D : Nat → Nat → Bool} {g : Nat → Nat} {a b : Nat} (hg : g b ≤ 240) : gO D g a b ≤ 240 := by
  unfold gO; split <;> omega
theorem gp_le {D : Nat → Nat → Bool} {g : Nat → Nat} {a b : Nat} (ha : g a ≤ 240) (hb : g b ≤ 240) : gp D g a b ≤ 240 := by
  have h1 := gO_le (D := D) (a := a) hb
  have h2 := gO_le (D := D) (a := b) ha
  rcases gp_one D g a b with h | h <;> unfold gp <;> omega
theorem sN_congr {f g : Nat → Nat} : ∀ n, (∀ k, k < n → f k = g k) → sN n f = sN n g
  | 0, _ => rfl
  | n + 1, h => by
    show sN n f + f n = sN n g + g n
    rw [sN_congr n (fun k hk => h k (by omega)), h n (by omega)]
theorem sN_add (f g : Nat → Nat) : ∀ n, sN n (fun k => f k + g k) = sN n f + sN n g
  | 0 => rfl
  | n + 1 => by
    show sN n (fun k => f k + g k) + (f n + g n) = (sN n f + f n) + (sN n g + g n)
    rw [sN_add f g n]; omega
/-- over pairs: in order, or both ways -/
theorem sN_tri (f : Nat → Nat → Nat) (h0 : ∀ a, f a a = 0) : ∀ n, sN n (fun a => sN n (f a)) = sN n (fun i => sN i (fun j => f i j + f j i))
  | 0 => rfl
  | n + 1 => by
    have e : sN (n + 1) (fun a => sN (n + 1) (f a)) = sN n (fun a => sN n (f a)) + sN n (fun a => f a n) + (sN n (f n) + f n n) := by
      show sN n (fun a => sN n (f a) + f a n) + (sN n (f n) + f n n) = _
      rw [sN_add]
    rw [e, sN_tri f h0 n, h0]
    show _ = sN n (fun i => sN i (fun j => f i j + f j i)) + sN n (fun j => f n j + f j n)
    rw [sN_add]; omega
/-! folds -/
def fd {α : Type} : Nat → (Nat → α → α) → α → α
  | 0, _, a => a
  | n + 1, f, a => f n (fd n f a)
theorem loopF {α : Type} {P : Nat → α → Prop} {I : Nat → α → Prop} {f : Nat → α → α} {a0 : α} (n : Nat) (h0 : I 0 a0) (hI : ∀ i a, i < n → I i a → I (i + 1) (f i a)) (he : I n (fd n f a0) → P n (fd n f a0)) (hs : ∀ i a, i < n → I i a → P (i + 1) (f i a) → P i a) : P 0 a0 := by
  have inv : ∀ i, i ≤ n → I i (fd i f a0) := by
    intro i
    induction i with
    | zero => intro _; exact h0
    | succ i ih => intro hi; exact hI i _ (by omega) (ih (by omega))
  have : ∀ j i, i + j = n → P i (fd i f a0) := by
    intro j
    induction j with
    | zero => intro i hi; have : i = n := by omega
              rw [this]; exact he (inv n (Nat.le_refl n))
    | succ j ih => intro i hi; exact hs i _ (by omega) (inv i (by omega)) (ih (i + 1) (by omega))
  exact this n 0 (by omega)
section gap
variable {Θ : Th} {d : Nat} {σ : Mem} {o r lv : Nat} {B : Bk} {D : Nat → Nat → Bool}
/-- what the methods of an order read of a book -/
def Rd (r : Nat) (B : Bk) (σ : Mem) : Prop := (r = 12 ∨ r = 22) ∧ σ.1 r 4 = nI (bN B) ∧ bN B ≤ 16 ∧ (∀ c, c < bN B → σ.1 (r + 5) c = nI (bG B c) ∧ bG B c ≤ 240) ∧ ∀ c, c < bN B → σ.1 (r + 4) c = nI (bY B c) ∧ bY B c ≤ 99
theorem Rd_of (hB : BkC r lv B σ) (hk : BkOk lv B) : Rd r B σ := by
  obtain ⟨h0, -, ⟨hn, -, hy, hg, -⟩, -⟩ := hB
  obtain ⟨-, ⟨kn, klv⟩, -, -, kc, -⟩ := hk
  exact ⟨h0, hn, by omega, fun c hc => ⟨hg c (by omega), (kc c (by omega)).2.2.1⟩, fun c hc => ⟨hy c (by omega), (kc c (by omega)).2.1⟩⟩
theorem c80 {i j : Nat} (hD : OrC o D σ) (hR : Rd r B σ) (hi : i < bN B) (hj : j < bN B) : Ci Θ (d + 1) 80 [.ref o, .ref r, .int (nI i), .int (nI j)] σ (fun v σ' => σ' = σ ∧ v = nI (gp D (bG B) i j)) := by
  obtain ⟨h0, hn, kn, hg, -⟩ := hR
  have gi := hg i hi
  have gj := hg j hj
  refine K80 (B80_0 (or_s hD.1) (bk_s h0) ⟨vp_in_nI (show i < 16 by omega) (by decide), vp_in_nI (show j < 16 by omega) (by decide), ?_⟩)
  rw [nI_clamp (by omega), nI_clamp (by omega), gi.1, gj.1]
  refine ⟨fun h => ?_, fun h => ?_⟩
  · have hle : bG B j ≤ bG B i := by
      rcases Nat.lt_or_ge (bG B i) (bG B j) with q | q
      · have := pk_sneg (show bG B j < 2 ^ 30 by omega) q
        exact absurd h (by rw [i_le]; rw [i_lt] at this; omega)
      · exact q
    refine ro (c79 hD (by omega) (by omega)) ⟨fun h2 => ⟨0, rfl, rfl, ?_⟩, fun h2 => ⟨_, rfl, rfl, ?_⟩⟩
    · rw [b01_0] at h2
      have e : gp D (bG B) i j = 0 := by simp [gp, gO, h2]; omega
      rw [e]; rfl
    · rw [b01_n] at h2
      rw [pk_sub hle]
      have e : gp D (bG B) i j = bG B i - bG B j := by
        unfold gp gO
        rw [if_neg (by omega)]
        by_cases q : bG B j < bG B i
        · rw [if_pos ⟨h2, q⟩]; omega
        · rw [if_neg (by omega)]; omega
      rw [e]
  · have hlt : bG B i < bG B j := by
      rcases Nat.lt_or_ge (bG B i) (bG B j) with q | q
      · exact q
      · exact absurd (by rw [pk_sub q]; exact nI_pos' (by omega)) h
    refine ro (c79 hD (by omega) (by omega)) ⟨fun h2 => ⟨0, rfl, rfl, ?_⟩, fun h2 => ⟨_, rfl, rfl, ?_⟩⟩
    · rw [b01_0] at h2
      have e : gp D (bG B) i j = 0 := by simp [gp, gO, h2]; omega
      rw [e]; rfl
    · rw [b01_n] at h2
      have e : gp D (bG B) i j = bG B j - bG B i := by
        unfold gp gO
        rw [if_pos ⟨h2, hlt⟩, if_neg (by omega)]; omega
      rw [e, ← pk_sub (Nat.le_of_lt hlt)]
      rw [iI_nI, iI_nI, iI_sub, iI_sub, iI_neg]; congr 1; omega
theorem c81 {i : Nat} (hD : OrC o D σ) (hR : Rd r B σ) (hi : i < bN B) : Ci Θ (d + 2) 81 [.ref o, .ref r, .int (nI i)] σ (fun v σ' => σ' = σ ∧ v = sX (fun j => decide (j < bN B) && decide (0 < gp D (bG B) i j))) := by
  refine K81 (B81_0 (or_s hD.1) (bk_s hR.1) ?_)
  rw [sX_0]
  have start := loopN (P := fun j => G Θ (d + 2) 81 5 [some (.ref o), some (.ref r), some (.int (nI i)), some (.int (sX (fun k => decide (k < j) && decide (0 < gp D (bG B) i k)))), some (.int (nI j))] [] σ (Pi fun v σ' => σ' = σ ∧ v = sX (fun j => decide (j < bN B) && decide (0 < gp D (bG B) i j)))) (bN B) ?_ ?_
  · rw [sX_congr (q := fun _ => false) (fun k _ => by simp)] at start
    exact start
  · exact B81_5 (or_s hD.1) (bk_s hR.1) ⟨fun _ => ⟨_, rfl, rfl, rfl⟩, fun h => absurd (by rw [hR.2.1]; exact nI_le (Nat.le_refl _) (by have := hR.2.2.1; omega)) h⟩
  · intro j hj ih
    have h16 := hR.2.2.1
    refine B81_5 (or_s hD.1) (bk_s hR.1) ⟨fun h => absurd h (by rw [hR.2.1]; exact nI_ge hj (by omega)), fun _ => ?_⟩
    refine ro (c80 hD hR hi hj) ?_
    have gi := (hR.2.2.2.1 i hi).2
    have gj := (hR.2.2.2.1 j hj).2
    have hle := gp_le (D := D) gi gj
    rw [nI_1, show (0 : Int32) = nI 0 from rfl, nI_leI (by omega) (by omega), sX_add1 _ (by omega)]
    refine ⟨fun h => ?_, fun h => ?_⟩
    · rw [sX_congr (q := fun k => decide (k < j + 1) && decide (0 < gp D (bG B) i k)) (fun k hk => ?_)]
      · exact ih
      · by_cases e : k = j
        · subst e; simp; omega
        · have : decide (k < j) = decide (k < j + 1) := by rw [decide_eq_decide]; omega
          rw [this]
    · rw [sX_congr (q := fun k => decide (k < j + 1) && decide (0 < gp D (bG B) i k)) (fun k hk => ?_)]
      · exact ih
      · by_cases e : k = j
        · subst e; simp; omega
        · have : decide (k < j) = decide (k < j + 1) := by rw [decide_eq_decide]; omega
          rw [this]; simp [e]
theorem c82 {i : Nat} (hD : OrC o D σ) (hR : Rd r B σ) (hi : i < bN B) : Ci Θ (d + 2) 82 [.ref o, .ref r, .int (nI i)] σ (fun v σ' => σ' = σ ∧ v = nI (sN (bN B) (gp D (bG B) i))) := by
  refine K82 (B82_0 (or_s hD.1) (bk_s hR.1) ?_)
  refine loopN (P := fun j => G Θ (d + 2) 82 5 [some (.ref o), some (.ref r), some (.int (nI i)), some (.int (nI (sN j (gp D (bG B) i)))), some (.int (nI j))] [] σ (Pi fun v σ' => σ' = σ ∧ v = nI (sN (bN B) (gp D (bG B) i)))) (bN B) ?_ ?_
  · exact B82_5 (or_s hD.1) (bk_s hR.1) ⟨fun _ => ⟨_, rfl, rfl, rfl⟩, fun h => absurd (by rw [hR.2.1]; exact nI_le (Nat.le_refl _) (by have := hR.2.2.1; omega)) h⟩
  · intro j hj ih
    have h16 := hR.2.2.1
    refine B82_5 (or_s hD.1) (bk_s hR.1) ⟨fun h => absurd h (by rw [hR.2.1]; exact nI_ge hj (by omega)), fun _ => ?_⟩
    refine ro (c80 hD hR hi hj) ?_
    rw [nI_1, nI_add]
    exact ih
def prC (n : Nat) (ask : Nat → Nat → Bool) (f : Nat → Nat → Nat) : Nat := sN n (fun i => cN i (fun j => ask i j && decide (0 < f i j)))
theorem cN_s (n : Nat) (p : Nat → Bool) : cN (n + 1) p = cN n p + (if p n = true then 1 else 0) := rfl
theorem c83 {yr : Bool} (hD : OrC o D σ) (hR : Rd r B σ) : Ci Θ (d + 2) 83 [.ref o, .ref r, .int (b01 yr)] σ (fun v σ' => σ' = σ ∧ v = nI (prC (bN B) (fun i j => !yr || decide (bY B i = bY B j)) (gp D (bG B)))) := by
  have h16 := hR.2.2.1
  refine K83 (B83_0 (or_s hD.1) (bk_s hR.1) ?_)
  refine loopN (P := fun i => G Θ (d + 2) 83 5 [some (.ref o), some (.ref r), some (.int (b01 yr)), some (.int (nI (sN i (fun i => cN i (fun j => (!yr || decide (bY B i = bY B j)) && decide (0 < gp D (bG B) i j)))))), some (.int (nI i)), none, none] [] σ (Pi fun v σ' => σ' = σ ∧ v = nI (prC (bN B) (fun i j => !yr || decide (bY B i = bY B j)) (gp D (bG B))))) (bN B) ?_ ?_
  · exact B83_5 (or_s hD.1) (bk_s hR.1) ⟨fun _ => ⟨_, rfl, rfl, rfl⟩, fun h => absurd (by rw [hR.2.1]; exact nI_le (Nat.le_refl _) (by omega)) h⟩
  · intro i hi ih
    refine B83_5 (or_s hD.1) (bk_s hR.1) ⟨fun h => absurd h (by rw [hR.2.1]; exact nI_ge hi (by omega)), fun _ => ?_⟩
    have start := loopN (P := fun j => G Θ (d + 2) 83 17 [some (.ref o), some (.ref r), some (.int (b01 yr)), some (.int (nI (sN i (fun i => cN i (fun j => (!yr || decide (bY B i = bY B j)) && decide (0 < gp D (bG B) i j))) + cN j (fun j => (!yr || decide (bY B i = bY B j)) && decide (0 < gp D (bG B) i j))))), some (.int (nI i)), some (.int (nI j)), none] [] σ (Pi fun v σ' => σ' = σ ∧ v = nI (prC (bN B) (fun i j => !yr || decide (bY B i = bY B j)) (gp D (bG B))))) i ?_ ?_
    · exact start
    · refine B83_17 (or_s hD.1) (bk_s hR.1) ⟨fun _ => ?_, fun h => absurd (nI_le (Nat.le_refl _) (by omega)) h⟩
      rw [nI_1]; exact ih
    · intro j hj ih'
      refine B83_17 (or_s hD.1) (bk_s hR.1) ⟨fun h => absurd h (nI_ge hj (by omega)), fun _ => ?_⟩
      rw [nI_1, nI_1, show ∀ x : Nat, nI x + 0 = nI x from fun x => by rw [show (0 : Int32) = nI 0 from rfl, nI_add]; rfl, nI_clamp (by omega), nI_clamp (by omega)]
      have gi := (hR.2.2.2.1 i (by omega)).2
      have gj := (hR.2.2.2.1 j (by omega)).2
      have hle := gp_le (D := D) gi gj
      have yi := hR.2.2.2.2 i (by omega)
      have yj := hR.2.2.2.2 j (by omega)
      have c0 : ∀ q : Bool, (yr = false ∨ bY B i = bY B j) → q = decide (0 < gp D (bG B) i j) → cN (j + 1) (fun j => (!yr || decide (bY B i = bY B j)) && decide (0 < gp D (bG B) i j)) = cN j (fun j => (!yr || decide (bY B i = bY B j)) && decide (0 < gp D (bG B) i j)) + (if q = true then 1 else 0) := by
        intro q hq e
        rw [cN_s, e]
        rcases hq with rfl | hq
        · simp
        · simp [hq]
      have last : ∀ (h : yr = false ∨ bY B i = bY B j), Ci Θ (d + 1) 80 [.ref o, .ref r, .int (nI i), .int (nI j)] σ (fun v σ' => (v ≤ 0 → G Θ (d + 2) 83 17 [some (.ref o), some (.ref r), some (.int (b01 yr)), some (.int (nI (sN i (fun i => cN i (fun j => (!yr || decide (bY B i = bY B j)) && decide (0 < gp D (bG B) i j))) + cN j (fun j => (!yr || decide (bY B i = bY B j)) && decide (0 < gp D (bG B) i j))))), some (.int (nI i)), some (.int (nI (j + 1))), none] [] σ' (Pi fun v σ' => σ' = σ ∧ v = nI (prC (bN B) (fun i j => !yr || decide (bY B i = bY B j)) (gp D (bG B))))) ∧ (¬ v ≤ 0 → G Θ (d + 2) 83 17 [some (.ref o), some (.ref r), some (.int (b01 yr)), some (.int (nI (sN i (fun i => cN i (fun j => (!yr || decide (bY B i = bY B j)) && decide (0 < gp D (bG B) i j))) + cN j (fun j => (!yr || decide (bY B i = bY B j)) && decide (0 < gp D (bG B) i j)) + 1))), some (.int (nI i)), some (.int (nI (j + 1))), none] [] σ' (Pi fun v σ' => σ' = σ ∧ v = nI (prC (bN B) (fun i j => !yr || decide (bY B i = bY B j)) (gp D (bG B)))))) := by
        intro h
        refine ro (c80 hD hR (by omega) (by omega)) ?_
        rw [show (0 : Int32) = nI 0 from rfl, nI_leI (by omega) (by omega)]
        refine ⟨fun q => ?_, fun q => ?_⟩
        · rw [c0 false h (by simp; omega)] at ih'; exact ih'
        · rw [c0 true h (by simp; omega)] at ih'; exact ih'
      refine ⟨fun h => ?_, fun h => ?_⟩
      · rw [b01_0] at h
        exact last (Or.inl h)
      · refine ⟨vp_in_nI (show i < 16 by omega) (by decide), vp_in_nI (show j < 16 by omega) (by decide), ?_⟩
        rw [yi.1, yj.1, nI_eq (by omega) (by omega)]
        refine ⟨fun q => ?_, fun q => last (Or.inr q)⟩
        rw [b01_n] at h
        rw [cN_s] at ih'
        simpa [h, q] using ih'
theorem c84 (hD : OrC o D σ) (hR : Rd r B σ) : Ci Θ (d + 3) 84 [.ref o, .ref r] σ (fun v σ' => σ' = σ ∧ v = nI (sN (bN B) (fun i => sN (bN B) (gp D (bG B) i)) / 2)) := by
  have h16 := hR.2.2.1
  have b1 : ∀ i, i < bN B → sN (bN B) (gp D (bG B) i) ≤ bN B * 240 := fun i hi => sN_b _ fun j hj => gp_le (hR.2.2.2.1 i hi).2 (hR.2.2.2.1 j hj).2
  have b2 : sN (bN B) (fun i => sN (bN B) (gp D (bG B) i)) ≤ bN B * (bN B * 240) := sN_b _ b1
  have b3 : bN B * (bN B * 240) ≤ 16 * (16 * 240) := Nat.mul_le_mul h16 (Nat.mul_le_mul h16 (Nat.le_refl _))
  refine K84 (B84_0 (or_s hD.1) (bk_s hR.1) ?_)
  refine loopN (P := fun i => G Θ (d + 3) 84 4 [some (.ref o), some (.ref r), some (.int (nI (sN i (fun i => sN (bN B) (gp D (bG B) i))))), some (.int (nI i))] [] σ (Pi fun v σ' => σ' = σ ∧ v = nI (sN (bN B) (fun i => sN (bN B) (gp D (bG B) i)) / 2))) (bN B) ?_ ?_
  · exact B84_4 (or_s hD.1) (bk_s hR.1) ⟨fun _ => ⟨_, rfl, rfl, by rw [show (2 : Int32) = nI 2 from rfl, pk_div (by omega) (by decide) (by decide)]⟩, fun h => absurd (by rw [hR.2.1]; exact nI_le (Nat.le_refl _) (by omega)) h⟩
  · intro i hi ih
    refine B84_4 (or_s hD.1) (bk_s hR.1) ⟨fun h => absurd h (by rw [hR.2.1]; exact nI_ge hi (by omega)), fun _ => ?_⟩
    refine ro (c82 hD hR hi) ?_
    rw [nI_1, nI_add]; exact ih
/-- the greatest, 0 if there is none -/
def mxS : Nat → (Nat → Nat) → Nat
  | 0, _ => 0
  | n + 1, f => max (mxS n f) (f n)
theorem mxS_le {f : Nat → Nat} {b : Nat} : ∀ n, (∀ k, k < n → f k ≤ b) → mxS n f ≤ b
  | 0, _ => Nat.zero_le _
  | n + 1, h => Nat.max_le.mpr ⟨mxS_le n (fun k hk => h k (by omega)), h n (by omega)⟩
theorem mxS_ge {f : Nat → Nat} : ∀ n k, k < n → f k ≤ mxS n f
  | 0, k, hk => by omega
  | n + 1, k, hk => by
    show f k ≤ max (mxS n f) (f n)
    rcases Nat.lt_or_ge k n with q | q
    · exact Nat.le_trans (mxS_ge n k q) (Nat.le_max_left _ _)
    · have : k = n := by omega
      subst this; exact Nat.le_max_right _ _
theorem nI_max {a b : Nat} (ha : a < 2 ^ 31) (hb : b < 2 ^ 31) : (if nI a < nI b then nI b else nI a) = nI (max a b) := by
  rcases Nat.lt_or_ge a b with q | q
  · rw [if_pos (nI_lt q hb), Nat.max_eq_right (Nat.le_of_lt q)]
  · rw [if_neg (nI_nlt q ha), Nat.max_eq_left q]
theorem nI_min {a b : Nat} (ha : a < 2 ^ 31) (hb : b < 2 ^ 31) : (if nI b < nI a then nI b else nI a) = nI (min a b) := by
  rcases Nat.lt_or_ge b a with q | q
  · rw [if_pos (nI_lt q ha), Nat.min_eq_right (Nat.le_of_lt q)]
  · rw [if_neg (nI_nlt q hb), Nat.min_eq_left q]
theorem c85 (hD : OrC o D σ) (hR : Rd r B σ) : Ci Θ (d + 2) 85 [.ref o, .ref r] σ (fun v σ' => σ' = σ ∧ v = nI (mxS (bN B) (fun i => mxS i (gp D (bG B) i)))) := by
  have h16 := hR.2.2.1
  have bg : ∀ i j, i < bN B → j < bN B → gp D (bG B) i j ≤ 240 := fun i j hi hj => gp_le (hR.2.2.2.1 i hi).2 (hR.2.2.2.1 j hj).2
  have b1 : ∀ i j, i < bN B → j ≤ i → mxS j (gp D (bG B) i) ≤ 240 := fun i j hi hj => mxS_le _ fun k hk => bg i k hi (by omega)
  have b2 : ∀ i, i ≤ bN B → mxS i (fun i => mxS i (gp D (bG B) i)) ≤ 240 := fun i hi => mxS_le _ fun k hk => b1 k k (by omega) (Nat.le_refl _)
  refine K85 (B85_0 (or_s hD.1) (bk_s hR.1) ?_)
  refine loopN (P := fun i => G Θ (d + 2) 85 4 [some (.ref o), some (.ref r), some (.int (nI (mxS i (fun i => mxS i (gp D (bG B) i))))), some (.int (nI i)), none] [] σ (Pi fun v σ' => σ' = σ ∧ v = nI (mxS (bN B) (fun i => mxS i (gp D (bG B) i))))) (bN B) ?_ ?_
  · exact B85_4 (or_s hD.1) (bk_s hR.1) ⟨fun _ => ⟨_, rfl, rfl, rfl⟩, fun h => absurd (by rw [hR.2.1]; exact nI_le (Nat.le_refl _) (by omega)) h⟩
  · intro i hi ih
    refine B85_4 (or_s hD.1) (bk_s hR.1) ⟨fun h => absurd h (by rw [hR.2.1]; exact nI_ge hi (by omega)), fun _ => ?_⟩
    have start := loopN (P := fun j => G Θ (d + 2) 85 15 [some (.ref o), some (.ref r), some (.int (nI (max (mxS i (fun i => mxS i (gp D (bG B) i))) (mxS j (gp D (bG B) i))))), some (.int (nI i)), some (.int (nI j))] [] σ (Pi fun v σ' => σ' = σ ∧ v = nI (mxS (bN B) (fun i => mxS i (gp D (bG B) i))))) i ?_ ?_
    · rw [show max (mxS i (fun i => mxS i (gp D (bG B) i))) (mxS 0 (gp D (bG B) i)) = mxS i (fun i => mxS i (gp D (bG B) i)) from Nat.max_eq_left (Nat.zero_le _)] at start
      exact start
    · refine B85_15 (or_s hD.1) (bk_s hR.1) ⟨fun _ => ?_, fun h => absurd (nI_le (Nat.le_refl _) (by omega)) h⟩
      rw [nI_1]; exact ih
    · intro j hj ih'
      refine B85_15 (or_s hD.1) (bk_s hR.1) ⟨fun h => absurd h (nI_ge hj (by omega)), fun _ => ?_⟩
      refine ro (c80 hD hR (by omega) (by omega)) ?_
      have := bg i j hi (by omega)
      have := b1 i j hi (by omega)
      have := b2 i (by omega)
      rw [nI_1, nI_max (by omega) (by omega), Nat.max_assoc]
      exact ih'
theorem c87 {i : Nat} (hD : OrC o D σ) (hR : Rd r B σ) (hi : i < bN B) : Ci Θ (d + 2) 87 [.ref o, .ref r, .int (nI i)] σ (fun v σ' => σ' = σ ∧ v = iI (fd (bN B) (fun j (a : Int × Nat) => if gp D (bG B) i j ≤ a.2 then a else ((j : Int), gp D (bG B) i j)) (-1, 0)).1) := by
  have h16 := hR.2.2.1
  refine K87 (B87_0 (or_s hD.1) (bk_s hR.1) ?_)
  refine loopF (α := Int × Nat) (I := fun _ a => a.2 ≤ 240) (f := fun j (a : Int × Nat) => if gp D (bG B) i j ≤ a.2 then a else ((j : Int), gp D (bG B) i j)) (a0 := (-1, 0)) (P := fun j a => G Θ (d + 2) 87 8 [some (.ref o), some (.ref r), some (.int (nI i)), some (.int (iI a.1)), some (.int (nI a.2)), some (.int (nI j))] [] σ (Pi fun v σ' => σ' = σ ∧ v = iI (fd (bN B) (fun j (a : Int × Nat) => if gp D (bG B) i j ≤ a.2 then a else ((j : Int), gp D (bG B) i j)) (-1, 0)).1)) (bN B) (by decide) ?_ ?_ ?_
  · intro j a hj ha
    have := gp_le (D := D) (hR.2.2.2.1 i hi).2 (hR.2.2.2.1 j hj).2
    show (if gp D (bG B) i j ≤ a.2 then a else ((j : Int), gp D (bG B) i j)).2 ≤ 240
    split
    · exact ha
    · exact this
  · intro _
    exact B87_8 (or_s hD.1) (bk_s hR.1) ⟨fun _ => ⟨_, rfl, rfl, rfl⟩, fun h => absurd (by rw [hR.2.1]; exact nI_le (Nat.le_refl _) (by omega)) h⟩
  · intro j a hj ha ih
    have := gp_le (D := D) (hR.2.2.2.1 i hi).2 (hR.2.2.2.1 j hj).2
    refine B87_8 (or_s hD.1) (bk_s hR.1) ⟨fun h => absurd h (by rw [hR.2.1]; exact nI_ge hj (by omega)), fun _ => ?_⟩
    refine ro (c80 hD hR hi hj) ?_
    rw [nI_1, nI_leI (by omega) (by omega)]
    refine ⟨fun h => ?_, fun h => ?_⟩
    · rw [if_pos h] at ih; exact ih
    · refine ro (c80 hD hR hi hj) ?_
      rw [if_neg h] at ih
      rw [iI_nI j]
      exact ih
end gap
