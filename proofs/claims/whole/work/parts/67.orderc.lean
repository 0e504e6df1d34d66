/-! CONTRACTS: oddest, the greatest gap's months, the new case: the class -/
/-- so many clash with a, so much together -/
def foN (n : Nat) (D : Nat → Nat → Bool) (g : Nat → Nat) (a : Nat) : Nat := cN n (fun b => decide (0 < gp D g a b))
def foS (n : Nat) (D : Nat → Nat → Bool) (g : Nat → Nat) (a : Nat) : Nat := sN n (gp D g a)
/-- the oddest so far: its number (-1: none), with how many, how much -/
def odF (n : Nat) (D : Nat → Nat → Bool) (g : Nat → Nat) (i : Nat) (a : Int × Nat × Nat) : Int × Nat × Nat :=
  if a.2.1 < foN n D g i ∨ (foN n D g i = a.2.1 ∧ a.2.2 < foS n D g i) then ((i : Int), foN n D g i, foS n D g i) else a
def odd3 (n : Nat) (D : Nat → Nat → Bool) (g : Nat → Nat) : Int × Nat × Nat := fd n (odF n D g) (-1, 0, 0)
theorem foS_le {n : Nat} {D : Nat → Nat → Bool} {g : Nat → Nat} {a : Nat} (hn : n ≤ 16) (ha : g a ≤ 240) (hg : ∀ c, c < n → g c ≤ 240) : foS n D g a ≤ 3840 :=
  Nat.le_trans (sN_b n fun j hj => gp_le ha (hg j hj)) (Nat.mul_le_mul hn (Nat.le_refl 240))
/-- twice the middle -/
def hiG (D : Nat → Nat → Bool) (g : Nat → Nat) (i n : Nat) : Nat := fd n (fun j a => if D i j = true then max a (g j) else a) (g i)
def loG (D : Nat → Nat → Bool) (g : Nat → Nat) (i n : Nat) : Nat := fd n (fun j a => if D j i = true then min a (g j) else a) (g i)
theorem hiG_le {D : Nat → Nat → Bool} {g : Nat → Nat} {i : Nat} : ∀ n, g i ≤ 240 → (∀ c, c < n → g c ≤ 240) → hiG D g i n ≤ 240
  | 0, h, _ => h
  | n + 1, h, hg => by
    show (if D i n = true then max (hiG D g i n) (g n) else hiG D g i n) ≤ 240
    have h1 := hiG_le (D := D) n h (fun c hc => hg c (by omega))
    split
    · exact Nat.max_le.mpr ⟨h1, hg n (by omega)⟩
    · exact h1
theorem loG_le {D : Nat → Nat → Bool} {g : Nat → Nat} {i : Nat} : ∀ n, g i ≤ 240 → loG D g i n ≤ 240
  | 0, h => h
  | n + 1, h => by
    show (if D n i = true then min (loG D g i n) (g n) else loG D g i n) ≤ 240
    have h1 := loG_le (D := D) n h
    split
    · exact Nat.le_trans (Nat.min_le_left _ _) h1
    · exact h1
def absD (a b : Nat) : Nat := if a < b then b - a else a - b
def grC (D : Nat → Nat → Bool) (g : Nat → Nat) (n : Nat) : Nat := mxS n (fun i => absD (hiG D g i n + loG D g i n) (2 * g i))
/-- those that are under (over) one of those that the new case is over (that are over it), by the marks -/
def unN (n : Nat) (D : Nat → Nat → Bool) (q : Nat → Bool) (k : Nat) : Bool := exB n (fun c => q c && D c k)
section orderc
variable {Θ : Th} {d : Nat} {σ : Mem} {o r lv : Nat} {B : Bk} {D : Nat → Nat → Bool} {Q : Po}
theorem c86 (hD : OrC o D σ) (hR : Rd r B σ) (k : Q (some (.int (iI (odd3 (bN B) D (bG B)).1))) σ) : Cm Θ (d + 3) 86 [.ref o, .ref r] σ Q := by
  have h16 := hR.2.2.1
  have gb : ∀ c, c < bN B → bG B c ≤ 240 := fun c hc => (hR.2.2.2.1 c hc).2
  refine K86 (B86_0 (or_s hD.1) (bk_s hR.1) ?_)
  refine loopF (α := Int × Nat × Nat) (I := fun _ a => a.2.1 ≤ 16 ∧ a.2.2 ≤ 3840) (f := odF (bN B) D (bG B)) (a0 := (-1, 0, 0)) (P := fun i a => G Θ (d + 3) 86 10 [some (.ref o), some (.ref r), some (.int (iI a.1)), some (.int (nI a.2.1)), some (.int (nI a.2.2)), some (.int (nI i)), none, none] [] σ Q) (bN B) ⟨by decide, by decide⟩ ?_ ?_ ?_
  · intro i a hi ha
    show (odF (bN B) D (bG B) i a).2.1 ≤ 16 ∧ (odF (bN B) D (bG B) i a).2.2 ≤ 3840
    unfold odF
    split
    · exact ⟨Nat.le_trans (cN_max _ _) h16, foS_le h16 (gb i hi) gb⟩
    · exact ha
  · intro _
    exact B86_10 (or_s hD.1) (bk_s hR.1) ⟨fun _ => k, fun h => absurd (by rw [hR.2.1]; exact nI_le (Nat.le_refl _) (by omega)) h⟩
  · intro i a hi ha ih
    have e1 : cN 16 (fun j => decide (j < bN B) && decide (0 < gp D (bG B) i j)) = foN (bN B) D (bG B) i := by
      have e2 := cN_split (fun j => decide (j < bN B) && decide (0 < gp D (bG B) i j)) (bN B) (16 - bN B)
      rw [show bN B + (16 - bN B) = 16 from by omega] at e2
      rw [e2, cN_0 (16 - bN B) (fun k hk => by
        have : ¬ bN B + k < bN B := by omega
        simp [this])]
      exact cN_congr _ fun j hj => by simp [hj]
    have l1 : foN (bN B) D (bG B) i ≤ 16 := Nat.le_trans (cN_max _ _) h16
    have l2 := foS_le (D := D) h16 (gb i hi) gb
    refine B86_10 (or_s hD.1) (bk_s hR.1) ⟨fun h => absurd h (by rw [hR.2.1]; exact nI_ge hi (by omega)), fun _ => ?_⟩
    refine ro (c81 hD hR hi) (c286 ⟨_, rfl, ro (c82 hD hR hi) ?_⟩)
    rw [e1, nI_1, nI_ltI (by omega) (by omega), nI_eq (by omega) (by omega)]
    rw [show sN (bN B) (gp D (bG B) i) = foS (bN B) D (bG B) i from rfl, nI_leI (by omega) (by omega)]
    have up : (a.2.1 < foN (bN B) D (bG B) i ∨ (foN (bN B) D (bG B) i = a.2.1 ∧ a.2.2 < foS (bN B) D (bG B) i)) → G Θ (d + 3) 86 10 [some (.ref o), some (.ref r), some (.int (nI i)), some (.int (nI (foN (bN B) D (bG B) i))), some (.int (nI (foS (bN B) D (bG B) i))), some (.int (nI (i + 1))), none, none] [] σ Q := by
      intro h
      rw [odF, if_pos h, ← iI_nI] at ih
      exact ih
    have no : ¬ (a.2.1 < foN (bN B) D (bG B) i ∨ (foN (bN B) D (bG B) i = a.2.1 ∧ a.2.2 < foS (bN B) D (bG B) i)) → G Θ (d + 3) 86 10 [some (.ref o), some (.ref r), some (.int (iI a.1)), some (.int (nI a.2.1)), some (.int (nI a.2.2)), some (.int (nI (i + 1))), none, none] [] σ Q := by
      intro h
      rw [odF, if_neg h] at ih
      exact ih
    refine ⟨fun h => up (Or.inl h), fun h => ⟨fun h2 => no (by omega), fun h2 => ⟨fun h3 => no (by omega), fun h3 => up (by omega)⟩⟩⟩
theorem c88 {i : Nat} (hD : OrC o D σ) (hR : Rd r B σ) (hi : i < bN B) (k : Q (some (.int (nI (hiG D (bG B) i (bN B) + loG D (bG B) i (bN B))))) σ) : Cm Θ (d + 1) 88 [.ref o, .ref r, .int (nI i)] σ Q := by
  have h16 := hR.2.2.1
  have gb : ∀ c, c < bN B → bG B c ≤ 240 := fun c hc => (hR.2.2.2.1 c hc).2
  have v16 := vp_in_nI (show i < 16 by omega) (by decide)
  refine K88 (B88_0 (or_s hD.1) (bk_s hR.1) ⟨v16, v16, ?_⟩)
  rw [nI_clamp (by omega), (hR.2.2.2.1 i hi).1]
  refine loopN (P := fun j => G Θ (d + 1) 88 18 [some (.ref o), some (.ref r), some (.int (nI i)), some (.int (nI (hiG D (bG B) i j))), some (.int (nI (loG D (bG B) i j))), some (.int (nI j))] [] σ Q) (bN B) ?_ ?_
  · refine B88_18 (or_s hD.1) (bk_s hR.1) ⟨fun _ => ?_, fun h => absurd (by rw [hR.2.1]; exact nI_le (Nat.le_refl _) (by omega)) h⟩
    rw [nI_add]; exact k
  · intro j hj ih
    have vj := vp_in_nI (show j < 16 by omega) (by decide)
    have e1 : hiG D (bG B) i (j + 1) = if D i j = true then max (hiG D (bG B) i j) (bG B j) else hiG D (bG B) i j := rfl
    have e2 : loG D (bG B) i (j + 1) = if D j i = true then min (loG D (bG B) i j) (bG B j) else loG D (bG B) i j := rfl
    have l1 := hiG_le (D := D) j (gb i hi) (fun c hc => gb c (by omega))
    have l2 := loG_le (D := D) j (gb i hi)
    have l3 := gb j hj
    refine B88_18 (or_s hD.1) (bk_s hR.1) ⟨fun h => absurd h (by rw [hR.2.1]; exact nI_ge hj (by omega)), fun _ => ?_⟩
    rw [nI_1]
    refine ro (c79 hD (by omega) (by omega)) ⟨fun h => ?_, fun h => ⟨vj, ?_⟩⟩
    · rw [b01_0] at h
      refine ro (c79 hD (by omega) (by omega)) ⟨fun h2 => ?_, fun h2 => ⟨vj, ?_⟩⟩
      · rw [b01_0] at h2
        rw [e1, e2, h, h2] at ih; exact ih
      · rw [b01_n] at h2
        rw [nI_clamp (by omega), (hR.2.2.2.1 j hj).1, nI_min (by omega) (by omega)]
        rw [e1, e2, h, h2] at ih; exact ih
    · rw [b01_n] at h
      refine ro (c79 hD (by omega) (by omega)) ⟨fun h2 => ?_, fun h2 => ⟨vj, ?_⟩⟩
      · rw [b01_0] at h2
        rw [nI_clamp (by omega), (hR.2.2.2.1 j hj).1, nI_max (by omega) (by omega)]
        rw [e1, e2, h, h2] at ih; exact ih
      · rw [b01_n] at h2
        rw [nI_clamp (by omega), (hR.2.2.2.1 j hj).1, nI_min (by omega) (by omega), nI_max (by omega) (by omega)]
        rw [e1, e2, h, h2] at ih; exact ih
theorem nI_abs {a b : Nat} (ha : a < 2 ^ 30) (hb : b < 2 ^ 30) : (if 0 ≤ nI a - nI b then nI a - nI b else 0 - (nI a - nI b)) = nI (absD a b) := by
  rw [absD]
  rcases Nat.lt_or_ge a b with q | q
  · rw [if_neg (by have := pk_sneg hb q; rw [i_lt] at this; rw [i_le]; omega), if_pos q]
    rw [iI_nI, iI_nI, iI_nI, iI_sub, show (0 : Int32) = iI 0 from rfl, iI_sub]; congr 1; omega
  · rw [if_neg (show ¬ a < b by omega), pk_sub q, if_pos (nI_pos' (by omega))]
theorem c89 (hD : OrC o D σ) (hR : Rd r B σ) (k : Q (some (.int (nI (grC D (bG B) (bN B))))) σ) : Cm Θ (d + 2) 89 [.ref o, .ref r] σ Q := by
  have h16 := hR.2.2.1
  have gb : ∀ c, c < bN B → bG B c ≤ 240 := fun c hc => (hR.2.2.2.1 c hc).2
  have l1 : ∀ i, i < bN B → hiG D (bG B) i (bN B) + loG D (bG B) i (bN B) ≤ 480 := fun i hi => by
    have := hiG_le (D := D) (bN B) (gb i hi) gb
    have := loG_le (D := D) (bN B) (gb i hi)
    omega
  have l2 : ∀ i, i < bN B → absD (hiG D (bG B) i (bN B) + loG D (bG B) i (bN B)) (2 * bG B i) ≤ 480 := fun i hi => by
    have := l1 i hi; have := gb i hi; unfold absD; split <;> omega
  refine K89 (B89_0 (or_s hD.1) (bk_s hR.1) ?_)
  refine loopN (P := fun i => G Θ (d + 2) 89 4 [some (.ref o), some (.ref r), some (.int (nI (mxS i (fun i => absD (hiG D (bG B) i (bN B) + loG D (bG B) i (bN B)) (2 * bG B i))))), some (.int (nI i))] [] σ Q) (bN B) ?_ ?_
  · exact B89_4 (or_s hD.1) (bk_s hR.1) ⟨fun _ => k, fun h => absurd (by rw [hR.2.1]; exact nI_le (Nat.le_refl _) (by omega)) h⟩
  · intro i hi ih
    refine B89_4 (or_s hD.1) (bk_s hR.1) ⟨fun h => absurd h (by rw [hR.2.1]; exact nI_ge hi (by omega)), fun _ => ?_⟩
    refine c88 hD hR hi ⟨_, rfl, vp_in_nI (show i < 16 by omega) (by decide), ?_⟩
    have a1 := l1 i hi
    have a2 := l2 i hi
    have a3 := gb i hi
    have a4 : mxS i (fun i => absD (hiG D (bG B) i (bN B) + loG D (bG B) i (bN B)) (2 * bG B i)) ≤ 480 := mxS_le _ fun k hk => l2 k (by omega)
    rw [nI_clamp (by omega), (hR.2.2.2.1 i hi).1, show (2 : Int32) = nI 2 from rfl, pk_mul, nI_1, nI_abs (by omega) (by omega), nI_max (by omega) (by omega)]
    exact ih
theorem c90 {q : Nat → Bool} (hD : OrC o D σ) (hn : (r = 12 ∨ r = 22) ∧ σ.1 r 4 = nI (bN B) ∧ bN B ≤ 16) {x3 : Int32} (hx : σ.1 r 3 = x3) (hq : ∀ c, c < bN B → Ci Θ (d + 1) 18 [.ref r, .int 16, .int (nI c), .int x3] σ (fun v σ' => σ' = σ ∧ v = b01 (q c))) (k : Q (some (.int (sX (unN (bN B) D q)))) σ) : Cm Θ (d + 2) 90 [.ref o, .ref r] σ Q := by
  refine K90 (B90_0 (or_s hD.1) (bk_s hn.1) ?_)
  rw [sX_0]
  have start := loopN (P := fun i => G Θ (d + 2) 90 4 [some (.ref o), some (.ref r), some (.int (sX (unN i D q))), some (.int (nI i))] [] σ Q) (bN B) ?_ ?_
  · exact start
  · exact B90_4 (or_s hD.1) (bk_s hn.1) ⟨fun _ => k, fun h => absurd (by rw [hn.2.1]; exact nI_le (Nat.le_refl _) (by omega)) h⟩
  · intro i hi ih
    refine B90_4 (or_s hD.1) (bk_s hn.1) ⟨fun h => absurd h (by rw [hn.2.1]; exact nI_ge hi (by omega)), fun _ => ?_⟩
    rw [hx]
    have e : ∀ k, unN (i + 1) D q k = (unN i D q k || (q i && D i k)) := fun k => rfl
    refine ro (hq i hi) ⟨fun h => ?_, fun h => ⟨vp_in_nI (show i < 16 by omega) (by decide), ?_⟩⟩
    · rw [b01_0] at h
      rw [nI_1]
      rw [sX_congr (q := unN i D q) (fun k _ => by rw [e, h]; simp)] at ih; exact ih
    · rw [b01_n] at h
      rw [nI_1, nI_clamp (by omega), (hD.2 i (by omega)).1, sX_or]
      rw [sX_congr (q := fun k => unN i D q k || D i k) (fun k _ => by rw [e, h]; simp)] at ih; exact ih
theorem c91 {q : Nat → Bool} (hD : OrC o D σ) (hn : (r = 12 ∨ r = 22) ∧ σ.1 r 4 = nI (bN B) ∧ bN B ≤ 16) {x3 : Int32} (hx : σ.1 r 3 = x3) (hq : ∀ c, c < bN B → Ci Θ (d + 1) 18 [.ref r, .int (nI c), .int 16, .int x3] σ (fun v σ' => σ' = σ ∧ v = b01 (q c))) (k : Q (some (.int (sX (unN (bN B) (fun a b => D b a) q)))) σ) : Cm Θ (d + 2) 91 [.ref o, .ref r] σ Q := by
  refine K91 (B91_0 (or_s hD.1) (bk_s hn.1) ?_)
  rw [sX_0]
  have start := loopN (P := fun i => G Θ (d + 2) 91 4 [some (.ref o), some (.ref r), some (.int (sX (unN i (fun a b => D b a) q))), some (.int (nI i))] [] σ Q) (bN B) ?_ ?_
  · exact start
  · exact B91_4 (or_s hD.1) (bk_s hn.1) ⟨fun _ => k, fun h => absurd (by rw [hn.2.1]; exact nI_le (Nat.le_refl _) (by omega)) h⟩
  · intro i hi ih
    refine B91_4 (or_s hD.1) (bk_s hn.1) ⟨fun h => absurd h (by rw [hn.2.1]; exact nI_ge hi (by omega)), fun _ => ?_⟩
    rw [hx]
    have e : ∀ k, unN (i + 1) (fun a b => D b a) q k = (unN i (fun a b => D b a) q k || (q i && D k i)) := fun k => rfl
    refine ro (hq i hi) ⟨fun h => ?_, fun h => ⟨vp_in_nI (show i < 16 by omega) (by decide), ?_⟩⟩
    · rw [b01_0] at h
      rw [nI_1]
      rw [sX_congr (q := unN i (fun a b => D b a) q) (fun k _ => by rw [e, h]; simp)] at ih; exact ih
    · rw [b01_n] at h
      rw [nI_1, nI_clamp (by omega), (hD.2 i (by omega)).2, sX_or]
      rw [sX_congr (q := fun k => unN i (fun a b => D b a) q k || D k i) (fun k _ => by rw [e, h]; simp)] at ih; exact ih
end orderc
