/-! CONTRACTS: gaps in the reference -/
/-- the rows of the order, what was given, years: what the reference reads -/
def OrR (B : Bk) (D : Nat → Nat → Bool) (σ : Mem) : Prop := ∀ a, a < bN B → σ.1 149 a = sX (D a) ∧ σ.1 150 a = sX (fun b => D b a)
theorem ci {Θ : Th} {d mi : Nat} {as : List Value} {σ : Mem} {q : Int32 → Mem → Prop} {x : Int32} (h : ∀ Q : Po, Q (some (.int x)) σ → Cm Θ d mi as σ Q) (k : q x σ) : Ci Θ d mi as σ q := h _ ⟨x, rfl, k⟩
theorem cl {Θ : Th} {d mi : Nat} {as : List Value} {σ : Mem} {q : Int64 → Mem → Prop} {x : Int64} (h : ∀ Q : Po, Q (some (.long x)) σ → Cm Θ d mi as σ Q) (k : q x σ) : Cl Θ d mi as σ q := h _ ⟨x, rfl, k⟩
section rgap
variable {Θ : Th} {d : Nat} {σ : Mem} {lv : Nat} {B : Bk} {D : Nat → Nat → Bool} {Q : Po}
theorem c202 {a b : Nat} (hD : OrR B D σ) (hN : bN B ≤ 16) (ha : a < bN B) (hb : b < 16) (k : Q (some (.int (b01 (D a b)))) σ) : Cm Θ d 202 [.ref 124, .int (nI a), .int (nI b)] σ Q := by
  refine K202 (B202_0 ⟨vp_in_nI (show a < 16 by omega) (by decide), ?_⟩)
  rw [nI_clamp (by omega), (hD a ha).1, sX_shr _ hb, bt_eq1]
  refine ⟨fun h => ?_, fun h => ?_⟩
  · have h : D a b = false := by cases q : D a b <;> simp_all
    rw [h] at k; exact k
  · rw [h] at k; exact k
theorem bk_n (hB : BkR lv B σ) (hk : BkOk lv B) : σ.1 124 38 = nI (bN B) ∧ bN B ≤ 16 := ⟨hB.2.1.1, by have := hk.2.1; omega⟩
theorem bk_g (hB : BkR lv B σ) (hk : BkOk lv B) {c : Nat} (hc : c < bN B) : σ.1 143 c = nI (bG B c) ∧ bG B c ≤ 240 := ⟨hB.2.1.2.2.2.1 c (by have := hk.2.1; omega), (hk.2.2.2.2.1 c (by have := hk.2.1; omega)).2.2.1⟩
theorem bk_y (hB : BkR lv B σ) (hk : BkOk lv B) {c : Nat} (hc : c < bN B) : σ.1 142 c = nI (bY B c) ∧ bY B c ≤ 99 := ⟨hB.2.1.2.2.1 c (by have := hk.2.1; omega), (hk.2.2.2.2.1 c (by have := hk.2.1; omega)).2.1⟩
theorem c204 {a b : Nat} (hB : BkR lv B σ) (hk : BkOk lv B) (hD : OrR B D σ) (ha : a < bN B) (hb : b < bN B) (k : Q (some (.int (nI (gO D (bG B) a b)))) σ) : Cm Θ (d + 1) 204 [.ref 124, .int (nI a), .int (nI b)] σ Q := by
  have h16 := (bk_n hB hk).2
  have ga := bk_g hB hk ha
  have gb := bk_g hB hk hb
  have va := vp_in_nI (show a < 16 by omega) (by decide)
  have vb := vp_in_nI (show b < 16 by omega) (by decide)
  refine K204 (B204_0 (ci (fun _ => c202 hD h16 ha (by omega)) ⟨fun h => ?_, fun h => ⟨va, vb, ?_⟩⟩))
  · rw [b01_0] at h
    rw [gO, if_neg (by rw [h]; simp)] at k; exact k
  · rw [b01_n] at h
    rw [nI_clamp (by omega), nI_clamp (by omega), ga.1, gb.1, nI_leI (by omega) (by omega)]
    refine ⟨fun h2 => ?_, fun h2 => ⟨vb, va, ?_⟩⟩
    · rw [gO, if_neg (by omega)] at k; exact k
    · rw [pk_sub (by omega)]
      rw [gO, if_pos ⟨h, by omega⟩] at k; exact k
theorem c205 {a b : Nat} (hB : BkR lv B σ) (hk : BkOk lv B) (hD : OrR B D σ) (ha : a < bN B) (hb : b < bN B) (k : Q (some (.int (nI (gp D (bG B) a b)))) σ) : Cm Θ (d + 2) 205 [.ref 124, .int (nI a), .int (nI b)] σ Q :=
  K205 (B205_0 ((ci (fun _ => c204 hB hk hD ha hb) (ci (fun _ => c204 hB hk hD hb ha) (by rw [nI_add]; exact k)))))
theorem c206 (hB : BkR lv B σ) (hk : BkOk lv B) (hD : OrR B D σ) (k : Q (some (.int (nI (sN (bN B) (fun a => cN (bN B) (fun b => decide (0 < gO D (bG B) a b))))))) σ) : Cm Θ (d + 2) 206 [.ref 124] σ Q := by
  obtain ⟨hn, h16⟩ := bk_n hB hk
  refine K206 (B206_0 ?_)
  refine loopN (P := fun a => G Θ (d + 2) 206 4 [some (.ref 124), some (.int (nI (sN a (fun a => cN (bN B) (fun b => decide (0 < gO D (bG B) a b)))))), some (.int (nI a)), none] [] σ Q) (bN B) ?_ ?_
  · exact B206_4 ⟨fun _ => k, fun h => absurd (by rw [hn]; exact nI_le (Nat.le_refl _) (by omega)) h⟩
  · intro a ha ih
    refine B206_4 ⟨fun h => absurd h (by rw [hn]; exact nI_ge ha (by omega)), fun _ => ?_⟩
    have start := loopN (P := fun b => G Θ (d + 2) 206 14 [some (.ref 124), some (.int (nI (sN a (fun a => cN (bN B) (fun b => decide (0 < gO D (bG B) a b))) + cN b (fun b => decide (0 < gO D (bG B) a b))))), some (.int (nI a)), some (.int (nI b))] [] σ Q) (bN B) ?_ ?_
    · exact start
    · refine B206_14 ⟨fun _ => ?_, fun h => absurd (by rw [hn]; exact nI_le (Nat.le_refl _) (by omega)) h⟩
      rw [nI_1]; exact ih
    · intro b hb ih'
      refine B206_14 ⟨fun h => absurd h (by rw [hn]; exact nI_ge hb (by omega)), fun _ => ?_⟩
      have l1 := gO_le (D := D) (a := a) (bk_g hB hk hb).2
      refine (ci (fun _ => c204 hB hk hD ha hb) ?_)
      rw [nI_1, nI_1, show (0 : Int32) = nI 0 from rfl, nI_leI (by omega) (by omega), nI_add]
      rw [cN_s] at ih'
      refine ⟨fun h => ?_, fun h => ?_⟩
      · rw [decide_eq_false (by omega)] at ih'; exact ih'
      · rw [decide_eq_true (by omega)] at ih'; exact ih'
/-- the sum, the greatest, by rows -/
theorem c207_2 {x1 : Int32} (hB : BkR lv B σ) (hk : BkOk lv B) (hD : OrR B D σ) (k : Q (some (.int (if x1 = 0 then nI (sN (bN B) (fun a => cN (bN B) (fun b => decide (0 < gO D (bG B) a b)))) else if x1 = 1 then nI (sN (bN B) (fun a => sN (bN B) (gO D (bG B) a))) else nI (mxS (bN B) (fun a => mxS (bN B) (gO D (bG B) a)))))) σ) :
    G Θ (d + 3) 207 22 [some (.ref 124), some (.int x1), some (.int 0), some (.int 0), some (.int 0), none] [] σ Q := by
  obtain ⟨hn, h16⟩ := bk_n hB hk
  have gb : ∀ a b, b < bN B → gO D (bG B) a b ≤ 240 := fun a b hb => gO_le (bk_g hB hk hb).2
  have m1 : ∀ a j, j ≤ bN B → mxS j (gO D (bG B) a) ≤ 240 := fun a j hj => mxS_le _ fun k hk => gb a k (by omega)
  have m2 : ∀ i, mxS i (fun a => mxS (bN B) (gO D (bG B) a)) ≤ 240 := fun i => mxS_le _ fun k _ => m1 k _ (Nat.le_refl _)
  refine loopN (P := fun a => G Θ (d + 3) 207 22 [some (.ref 124), some (.int x1), some (.int (nI (sN a (fun a => sN (bN B) (gO D (bG B) a))))), some (.int (nI (mxS a (fun a => mxS (bN B) (gO D (bG B) a))))), some (.int (nI a)), none] [] σ Q) (bN B) ?_ ?_
  · refine B207_22 ⟨fun _ => ⟨fun h => ⟨fun h2 => ?_, fun h2 => ?_⟩, fun h => (ci (fun _ => c206 hB hk hD) ?_)⟩, fun h => absurd (by rw [hn]; exact nI_le (Nat.le_refl _) (by omega)) h⟩
    · rw [if_neg h, if_neg h2] at k; exact k
    · rw [if_neg h, if_pos h2] at k; exact k
    · rw [if_pos h] at k; exact k
  · intro a ha ih
    refine B207_22 ⟨fun h => absurd h (by rw [hn]; exact nI_ge ha (by omega)), fun _ => ?_⟩
    have start := loopN (P := fun b => G Θ (d + 3) 207 34 [some (.ref 124), some (.int x1), some (.int (nI (sN a (fun a => sN (bN B) (gO D (bG B) a)) + sN b (gO D (bG B) a)))), some (.int (nI (max (mxS a (fun a => mxS (bN B) (gO D (bG B) a))) (mxS b (gO D (bG B) a))))), some (.int (nI a)), some (.int (nI b))] [] σ Q) (bN B) ?_ ?_
    · rw [show max (mxS a (fun a => mxS (bN B) (gO D (bG B) a))) (mxS 0 (gO D (bG B) a)) = mxS a (fun a => mxS (bN B) (gO D (bG B) a)) from Nat.max_eq_left (Nat.zero_le _)] at start
      exact start
    · refine B207_34 ⟨fun _ => ?_, fun h => absurd (by rw [hn]; exact nI_le (Nat.le_refl _) (by omega)) h⟩
      rw [nI_1]; exact ih
    · intro b hb ih'
      refine B207_34 ⟨fun h => absurd h (by rw [hn]; exact nI_ge hb (by omega)), fun _ => ?_⟩
      have l1 := gb a b hb
      have l2 := m1 a b (by omega)
      have l3 := m2 a
      refine (ci (fun _ => c204 hB hk hD ha hb) (ci (fun _ => c204 hB hk hD ha hb) ?_))
      have hm : max (mxS a (fun a => mxS (bN B) (gO D (bG B) a))) (mxS (b + 1) (gO D (bG B) a)) = max (max (mxS a (fun a => mxS (bN B) (gO D (bG B) a))) (mxS b (gO D (bG B) a))) (gO D (bG B) a b) := (Nat.max_assoc _ _ _).symm
      have hs : sN a (fun a => sN (bN B) (gO D (bG B) a)) + sN (b + 1) (gO D (bG B) a) = sN a (fun a => sN (bN B) (gO D (bG B) a)) + sN b (gO D (bG B) a) + gO D (bG B) a b := (Nat.add_assoc _ _ _).symm
      rw [hm, hs] at ih'
      rw [nI_1, nI_add, nI_leI (by omega) (by omega)]
      refine ⟨fun h => ?_, fun h => (ci (fun _ => c204 hB hk hD ha hb) ?_)⟩
      · rw [Nat.max_eq_left h] at ih'; exact ih'
      · rw [Nat.max_eq_right (by omega)] at ih'; exact ih'
theorem c208_2 {x1 : Int32} (hB : BkR lv B σ) (hk : BkOk lv B) (hD : OrR B D σ) (k : Q (some (.int (if 0 ≤ (odd3 (bN B) D (bG B)).1 then (if x1 = 0 then iI (odd3 (bN B) D (bG B)).1 else if x1 = 1 then nI (odd3 (bN B) D (bG B)).2.1 else nI (odd3 (bN B) D (bG B)).2.2) else -1))) σ) :
    G Θ (d + 3) 208 25 [some (.ref 124), some (.int x1), some (.int (-1)), some (.int 0), some (.int 0), some (.int 0), none, none, none] [] σ Q := by
  obtain ⟨hn, h16⟩ := bk_n hB hk
  have gb : ∀ c, c < bN B → bG B c ≤ 240 := fun c hc => (bk_g hB hk hc).2
  refine loopF (α := Int × Nat × Nat) (I := fun _ a => (-1 ≤ a.1 ∧ a.1 ≤ 16) ∧ a.2.1 ≤ 16 ∧ a.2.2 ≤ 3840) (f := odF (bN B) D (bG B)) (a0 := (-1, 0, 0)) (P := fun i a => G Θ (d + 3) 208 25 [some (.ref 124), some (.int x1), some (.int (iI a.1)), some (.int (nI a.2.1)), some (.int (nI a.2.2)), some (.int (nI i)), none, none, none] [] σ Q) (bN B) ⟨by decide, by decide, by decide⟩ ?_ ?_ ?_
  · intro i a hi ha
    show (-1 ≤ (odF (bN B) D (bG B) i a).1 ∧ (odF (bN B) D (bG B) i a).1 ≤ 16) ∧ (odF (bN B) D (bG B) i a).2.1 ≤ 16 ∧ (odF (bN B) D (bG B) i a).2.2 ≤ 3840
    unfold odF
    split
    · exact ⟨by simp only []; omega, Nat.le_trans (cN_max _ _) h16, foS_le h16 (gb i hi) gb⟩
    · exact ha
  · intro hI
    have e0 : (0 : Int32) ≤ iI (odd3 (bN B) D (bG B)).1 ↔ 0 ≤ (odd3 (bN B) D (bG B)).1 := by
      have h1 : -1 ≤ (odd3 (bN B) D (bG B)).1 := hI.1.1
      have h2 : (odd3 (bN B) D (bG B)).1 ≤ 16 := hI.1.2
      rw [show (0 : Int32) = iI 0 from rfl, iI_le (by omega) (by omega) (by omega) (by omega)]
    refine B208_25 ⟨fun _ => ⟨fun h => ⟨fun h1 => ⟨fun h2 => ?_, fun h2 => ?_⟩, fun h1 => ?_⟩, fun h => ?_⟩, fun h => absurd (by rw [hn]; exact nI_le (Nat.le_refl _) (by omega)) h⟩
    · rw [if_pos (e0.mp h), if_neg h1, if_neg h2] at k; exact k
    · rw [if_pos (e0.mp h), if_neg h1, if_pos h2] at k; exact k
    · rw [if_pos (e0.mp h), if_pos h1] at k; exact k
    · rw [if_neg (fun q => h (e0.mpr q))] at k; exact k
  · intro i a hi ha ih
    have l1 : foN (bN B) D (bG B) i ≤ 16 := Nat.le_trans (cN_max _ _) h16
    have l2 := foS_le (D := D) h16 (gb i hi) gb
    refine B208_25 ⟨fun h => absurd h (by rw [hn]; exact nI_ge hi (by omega)), fun _ => ?_⟩
    refine loopN (P := fun j => G Θ (d + 3) 208 43 [some (.ref 124), some (.int x1), some (.int (iI a.1)), some (.int (nI a.2.1)), some (.int (nI a.2.2)), some (.int (nI i)), some (.int (nI (cN j (fun b => decide (0 < gp D (bG B) i b))))), some (.int (nI (sN j (gp D (bG B) i)))), some (.int (nI j))] [] σ Q) (bN B) ?_ ?_
    · have up : (a.2.1 < foN (bN B) D (bG B) i ∨ (foN (bN B) D (bG B) i = a.2.1 ∧ a.2.2 < foS (bN B) D (bG B) i)) → G Θ (d + 3) 208 25 [some (.ref 124), some (.int x1), some (.int (nI i)), some (.int (nI (foN (bN B) D (bG B) i))), some (.int (nI (foS (bN B) D (bG B) i))), some (.int (nI (i + 1))), none, none, none] [] σ Q := by
        intro h
        rw [odF, if_pos h, ← iI_nI] at ih
        exact ih
      have no : ¬ (a.2.1 < foN (bN B) D (bG B) i ∨ (foN (bN B) D (bG B) i = a.2.1 ∧ a.2.2 < foS (bN B) D (bG B) i)) → G Θ (d + 3) 208 25 [some (.ref 124), some (.int x1), some (.int (iI a.1)), some (.int (nI a.2.1)), some (.int (nI a.2.2)), some (.int (nI (i + 1))), none, none, none] [] σ Q := by
        intro h
        rw [odF, if_neg h] at ih
        exact ih
      have z : foN (bN B) D (bG B) i = 0 → foS (bN B) D (bG B) i = 0 := by
        intro h
        have h1 := cN_eq0 _ h
        have : foS (bN B) D (bG B) i ≤ bN B * 0 := sN_b _ fun j hj => by have := of_decide_eq_false (h1 j hj); omega
        omega
      refine B208_43 ⟨fun _ => ?_, fun h => absurd (by rw [hn]; exact nI_le (Nat.le_refl _) (by omega)) h⟩
      show (nI (foN (bN B) D (bG B) i) = 0 → _) ∧ (¬ nI (foN (bN B) D (bG B) i) = 0 → _)
      rw [show (0 : Int32) = nI 0 from rfl, nI_eq (by omega) (by omega), nI_1]
      refine ⟨fun h => no (by have := z h; omega), fun h => ?_⟩
      show (nI (foN (bN B) D (bG B) i) < nI a.2.1 → _) ∧ (¬ nI (foN (bN B) D (bG B) i) < nI a.2.1 → (¬ nI (foN (bN B) D (bG B) i) = nI a.2.1 → _) ∧ (nI (foN (bN B) D (bG B) i) = nI a.2.1 → (nI a.2.2 < nI (foS (bN B) D (bG B) i) → _) ∧ (¬ nI a.2.2 < nI (foS (bN B) D (bG B) i) → _)))
      rw [nI_ltI (by omega) (by omega), nI_eq (by omega) (by omega), nI_ltI (by omega) (by omega)]
      exact ⟨fun h => no (by omega), fun h => ⟨fun h2 => up (by omega), fun h2 => ⟨fun h3 => up (by omega), fun h3 => no (by omega)⟩⟩⟩
    · intro j hj ih'
      refine B208_43 ⟨fun h => absurd h (by rw [hn]; exact nI_ge hj (by omega)), fun _ => ?_⟩
      have l1 := gp_le (D := D) (gb i hi) (gb j hj)
      refine (ci (fun _ => c205 hB hk hD hi hj) ?_)
      rw [show (0 : Int32) = nI 0 from rfl, nI_leI (by omega) (by omega), nI_1, nI_1]
      rw [cN_s] at ih'
      refine ⟨fun h => (ci (fun _ => c205 hB hk hD hi hj) ?_), fun h => (ci (fun _ => c205 hB hk hD hi hj) ?_)⟩
      · rw [nI_add, nI_add]
        rw [decide_eq_false (by omega)] at ih'; exact ih'
      · rw [nI_add]
        rw [decide_eq_true (by omega)] at ih'; exact ih'
/-- beside: its number, the greatest gap -/
def bsF (D : Nat → Nat → Bool) (g : Nat → Nat) (i j : Nat) (a : Int × Nat) : Int × Nat := if gp D g i j ≤ a.2 then a else ((j : Int), gp D g i j)
theorem c209_2 {i : Nat} (hB : BkR lv B σ) (hk : BkOk lv B) (hD : OrR B D σ) (hi : i < bN B) (k : Q (some (.int (iI (fd (bN B) (bsF D (bG B) i) (-1, 0)).1))) σ) :
    G Θ (d + 3) 209 21 [some (.ref 124), some (.int (nI i)), some (.int (-1)), some (.int 0), some (.int 0)] [] σ Q := by
  obtain ⟨hn, h16⟩ := bk_n hB hk
  refine loopF (α := Int × Nat) (I := fun _ a => a.2 ≤ 240) (f := bsF D (bG B) i) (a0 := (-1, 0)) (P := fun j a => G Θ (d + 3) 209 21 [some (.ref 124), some (.int (nI i)), some (.int (iI a.1)), some (.int (nI a.2)), some (.int (nI j))] [] σ Q) (bN B) (by decide) ?_ ?_ ?_
  · intro j a hj ha
    have := gp_le (D := D) (bk_g hB hk hi).2 (bk_g hB hk hj).2
    show (bsF D (bG B) i j a).2 ≤ 240
    unfold bsF
    split
    · exact ha
    · exact this
  · intro _
    exact B209_21 ⟨fun _ => k, fun h => absurd (by rw [hn]; exact nI_le (Nat.le_refl _) (by omega)) h⟩
  · intro j a hj ha ih
    have := gp_le (D := D) (bk_g hB hk hi).2 (bk_g hB hk hj).2
    refine B209_21 ⟨fun h => absurd h (by rw [hn]; exact nI_ge hj (by omega)), fun _ => ?_⟩
    refine (ci (fun _ => c205 hB hk hD hi hj) ?_)
    rw [nI_1, nI_ltI (by omega) (by omega)]
    refine ⟨fun h => (ci (fun _ => c205 hB hk hD hi hj) ?_), fun h => ?_⟩
    · rw [bsF, if_neg (by omega)] at ih
      rw [iI_nI j]
      exact ih
    · rw [bsF, if_pos (by omega)] at ih; exact ih
theorem c246_2 (hB : BkR lv B σ) (hk : BkOk lv B) (hD : OrR B D σ) (k : Q (some (.int (nI (sN (bN B) (fun a => cN (bN B) (fun b => decide (0 < gO D (bG B) a b) && decide (bY B a = bY B b))))))) σ) :
    G Θ (d + 2) 246 8 [some (.ref 124), some (.int 0), some (.int 0), none] [] σ Q := by
  obtain ⟨hn, h16⟩ := bk_n hB hk
  refine loopN (P := fun a => G Θ (d + 2) 246 8 [some (.ref 124), some (.int (nI (sN a (fun a => cN (bN B) (fun b => decide (0 < gO D (bG B) a b) && decide (bY B a = bY B b)))))), some (.int (nI a)), none] [] σ Q) (bN B) ?_ ?_
  · exact B246_8 ⟨fun _ => k, fun h => absurd (by rw [hn]; exact nI_le (Nat.le_refl _) (by omega)) h⟩
  · intro a ha ih
    refine B246_8 ⟨fun h => absurd h (by rw [hn]; exact nI_ge ha (by omega)), fun _ => ?_⟩
    have start := loopN (P := fun b => G Θ (d + 2) 246 18 [some (.ref 124), some (.int (nI (sN a (fun a => cN (bN B) (fun b => decide (0 < gO D (bG B) a b) && decide (bY B a = bY B b))) + cN b (fun b => decide (0 < gO D (bG B) a b) && decide (bY B a = bY B b))))), some (.int (nI a)), some (.int (nI b))] [] σ Q) (bN B) ?_ ?_
    · exact start
    · refine B246_18 ⟨fun _ => ?_, fun h => absurd (by rw [hn]; exact nI_le (Nat.le_refl _) (by omega)) h⟩
      rw [nI_1]; exact ih
    · intro b hb ih'
      refine B246_18 ⟨fun h => absurd h (by rw [hn]; exact nI_ge hb (by omega)), fun _ => ?_⟩
      have l1 := gO_le (D := D) (a := a) (bk_g hB hk hb).2
      have ya := bk_y hB hk ha
      have yb := bk_y hB hk hb
      refine (ci (fun _ => c204 hB hk hD ha hb) ?_)
      rw [nI_1, nI_1, show (0 : Int32) = nI 0 from rfl, nI_leI (by omega) (by omega), nI_add]
      rw [cN_s] at ih'
      refine ⟨fun h => ?_, fun h => ⟨vp_in_nI (show a < 16 by omega) (by decide), vp_in_nI (show b < 16 by omega) (by decide), ?_⟩⟩
      · rw [decide_eq_false (show ¬ 0 < gO D (bG B) a b by omega)] at ih'; exact ih'
      · rw [nI_clamp (by omega), nI_clamp (by omega), ya.1, yb.1, nI_eq (by omega) (by omega)]
        rw [decide_eq_true (show 0 < gO D (bG B) a b by omega), Bool.true_and] at ih'
        refine ⟨fun h2 => ?_, fun h2 => ?_⟩
        · rw [decide_eq_false h2] at ih'; exact ih'
        · rw [decide_eq_true h2] at ih'; exact ih'
theorem c227 {i : Nat} (hB : BkR lv B σ) (hk : BkOk lv B) (hD : OrR B D σ) (hi : i < bN B) (k : Q (some (.int (nI (hiG D (bG B) i (bN B) + loG D (bG B) i (bN B))))) σ) : Cm Θ (d + 1) 227 [.ref 124, .int (nI i)] σ Q := by
  obtain ⟨hn, h16⟩ := bk_n hB hk
  have gb : ∀ c, c < bN B → bG B c ≤ 240 := fun c hc => (bk_g hB hk hc).2
  have v16 := vp_in_nI (show i < 16 by omega) (by decide)
  refine K227 (B227_0 ⟨v16, v16, ?_⟩)
  rw [nI_clamp (by omega), (bk_g hB hk hi).1]
  refine loopN (P := fun j => G Θ (d + 1) 227 17 [some (.ref 124), some (.int (nI i)), some (.int (nI (hiG D (bG B) i j))), some (.int (nI (loG D (bG B) i j))), some (.int (nI j))] [] σ Q) (bN B) ?_ ?_
  · refine B227_17 ⟨fun _ => ?_, fun h => absurd (by rw [hn]; exact nI_le (Nat.le_refl _) (by omega)) h⟩
    rw [nI_add]; exact k
  · intro j hj ih
    have vj := vp_in_nI (show j < 16 by omega) (by decide)
    have gj := bk_g hB hk hj
    have e1 : hiG D (bG B) i (j + 1) = if D i j = true then max (hiG D (bG B) i j) (bG B j) else hiG D (bG B) i j := rfl
    have e2 : loG D (bG B) i (j + 1) = if D j i = true then min (loG D (bG B) i j) (bG B j) else loG D (bG B) i j := rfl
    have l1 := hiG_le (D := D) j (gb i hi) (fun c hc => gb c (by omega))
    have l2 := loG_le (D := D) j (gb i hi)
    have l3 := gb j hj
    rw [e1, e2] at ih
    -- the second half, whatever the first has made of the most
    have half : ∀ x : Nat, x ≤ 240 → (if D i j = true then max (hiG D (bG B) i j) (bG B j) else hiG D (bG B) i j) = x →
        ((D j i = false → G Θ (d + 1) 227 17 [some (.ref 124), some (.int (nI i)), some (.int (nI x)), some (.int (nI (loG D (bG B) i j))), some (.int (nI (j + 1)))] [] σ Q) ∧
        (D j i = true → nI (loG D (bG B) i j) ≤ nI (bG B j) → G Θ (d + 1) 227 17 [some (.ref 124), some (.int (nI i)), some (.int (nI x)), some (.int (nI (loG D (bG B) i j))), some (.int (nI (j + 1)))] [] σ Q) ∧
        (D j i = true → ¬ nI (loG D (bG B) i j) ≤ nI (bG B j) → G Θ (d + 1) 227 17 [some (.ref 124), some (.int (nI i)), some (.int (nI x)), some (.int (nI (bG B j))), some (.int (nI (j + 1)))] [] σ Q)) := by
      intro x hx hxe
      rw [hxe] at ih
      refine ⟨fun h => ?_, fun h h2 => ?_, fun h h2 => ?_⟩
      · rw [h] at ih; exact ih
      · rw [nI_leI (by omega) (by omega)] at h2
        rw [h, if_pos rfl, Nat.min_eq_left h2] at ih; exact ih
      · rw [nI_leI (by omega) (by omega)] at h2
        rw [h, if_pos rfl, Nat.min_eq_right (by omega)] at ih; exact ih
    have fin : ∀ x : Nat, x ≤ 240 → (if D i j = true then max (hiG D (bG B) i j) (bG B j) else hiG D (bG B) i j) = x → Ci Θ d 202 [.ref 124, .int (nI j), .int (nI i)] σ (fun v4 σ4 => (v4 = 0 → G Θ (d + 1) 227 17 [some (.ref 124), some (.int (nI i)), some (.int (nI x)), some (.int (nI (loG D (bG B) i j))), some (.int (nI j + 1))] [] σ4 Q) ∧ (¬ v4 = 0 → vp_in (nI j) 16 ∧ (nI (loG D (bG B) i j) ≤ σ4.1 143 (nI j).toNatClampNeg → G Θ (d + 1) 227 17 [some (.ref 124), some (.int (nI i)), some (.int (nI x)), some (.int (nI (loG D (bG B) i j))), some (.int (nI j + 1))] [] σ4 Q) ∧ (¬ nI (loG D (bG B) i j) ≤ σ4.1 143 (nI j).toNatClampNeg → vp_in (nI j) 16 ∧ G Θ (d + 1) 227 17 [some (.ref 124), some (.int (nI i)), some (.int (nI x)), some (.int (σ4.1 143 (nI j).toNatClampNeg)), some (.int (nI j + 1))] [] σ4 Q))) := by
      intro x hx hxe
      obtain ⟨f1, f2, f3⟩ := half x hx hxe
      refine (ci (fun _ => c202 hD h16 hj (by omega)) ?_)
      rw [nI_clamp (by omega), gj.1, nI_1]
      exact ⟨fun h => f1 (b01_0.mp h), fun h => ⟨vj, fun h2 => f2 (b01_n.mp h) h2, fun h2 => ⟨vj, f3 (b01_n.mp h) h2⟩⟩⟩
    refine B227_17 ⟨fun h => absurd h (by rw [hn]; exact nI_ge hj (by omega)), fun _ => ?_⟩
    refine (ci (fun _ => c202 hD h16 hi (by omega)) ?_)
    refine ⟨fun h => fin _ (by omega) (by rw [b01_0.mp h]; rfl), fun h => ⟨vj, ?_⟩⟩
    have h := b01_n.mp h
    rw [nI_clamp (by omega), gj.1, nI_leI (by omega) (by omega)]
    refine ⟨fun h2 => ?_, fun h2 => ⟨vj, ?_⟩⟩
    · have := fin (hiG D (bG B) i j) (by omega) (by rw [h, if_pos rfl, Nat.max_eq_left h2])
      rw [nI_clamp (by omega)] at this
      exact this
    · have := fin (bG B j) (by omega) (by rw [h, if_pos rfl, Nat.max_eq_right (by omega)])
      rw [nI_clamp (by omega)] at this
      exact this
end rgap
