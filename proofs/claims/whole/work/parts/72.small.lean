/-! SMALL METHODS: what is a case, a mark, a part, a year ..; parts of fractions; comparing -/
def isN (x : Int32) (n : Nat) : Prop := 0 ≤ x.toInt ∧ x.toInt < n
theorem isN_lt {x : Int32} {n : Nat} (hn : n < 2 ^ 31) : (x < 0 → ¬ isN x n) ∧ (nI n ≤ x → ¬ isN x n) ∧ (¬ x < 0 → ¬ nI n ≤ x → isN x n) := by
  have e := nI_toInt hn
  refine ⟨fun h q => ?_, fun h q => ?_, fun h h' => ?_⟩
  · rw [i_lt] at h; have e0 : (0 : Int32).toInt = 0 := rfl
    have := q.1; omega
  · rw [i_le] at h; have := q.2; omega
  · rw [i_lt] at h; rw [i_le] at h'
    have e0 : (0 : Int32).toInt = 0 := rfl
    exact ⟨by omega, by omega⟩
theorem isN_ex {x : Int32} {n : Nat} (h : isN x n) (hn : n < 2 ^ 31) : ∃ m, m < n ∧ x = nI m := by
  refine ⟨x.toInt.toNat, by have := h.1; have := h.2; omega, ?_⟩
  rw [i_eq, nI_toInt (by have := h.1; have := h.2; omega)]
  have := h.1; omega
theorem isN_nI {m n : Nat} (hm : m < 2 ^ 31) : isN (nI m) n ↔ m < n := by
  unfold isN; rw [nI_toInt hm]; omega
/-- a method that answers whether x is from 0 to n - 1 -/
theorem two_b {Q : Po} {σ : Mem} {x : Int32} {n : Nat} (P : Prop) [Decidable P] (hn : n < 2 ^ 31) (hP : P ↔ isN x n) (k : Q (some (.int (b01 (decide P)))) σ) :
    (x < 0 → Q (some (.int 0)) σ) ∧ (¬ x < 0 → (nI n ≤ x → Q (some (.int 0)) σ) ∧ (¬ nI n ≤ x → Q (some (.int 1)) σ)) := by
  obtain ⟨h1, h2, h3⟩ := isN_lt (x := x) hn
  have f : ∀ h : ¬ isN x n, Q (some (.int 0)) σ := fun h => by rw [decide_eq_false (fun q => h (hP.mp q))] at k; exact k
  exact ⟨fun h => f (h1 h), fun h => ⟨fun h' => f (h2 h'), fun h' => by rw [decide_eq_true (hP.mpr (h3 h h'))] at k; exact k⟩⟩
section small
variable {Θ : Th} {d : Nat} {σ : Mem} {Q : Po}
noncomputable def dP (P : Prop) : Bool := @decide P (Classical.propDecidable P)
theorem dP_iff {P : Prop} : dP P = true ↔ P := @decide_eq_true_iff P (Classical.propDecidable P)
theorem dP_t {P : Prop} (h : P) : dP P = true := dP_iff.mpr h
theorem dP_f {P : Prop} (h : ¬ P) : dP P = false := by
  cases q : dP P
  · rfl
  · exact absurd (dP_iff.mp q) h
theorem dP_c {P P' : Prop} (h : P ↔ P') : dP P = dP P' := by rw [propext h]
theorem dP_d (P : Prop) [Decidable P] : dP P = decide P := bool_eq (by rw [dP_iff, decide_eq_true_iff])
theorem rng_b {x : Int32} {n : Nat} (hn : n < 2 ^ 31) (k : Q (some (.int (b01 (dP (isN x n))))) σ) :
    (x < 0 → Q (some (.int 0)) σ) ∧ (¬ x < 0 → (nI n ≤ x → Q (some (.int 0)) σ) ∧ (¬ nI n ≤ x → Q (some (.int 1)) σ)) := by
  obtain ⟨h1, h2, h3⟩ := isN_lt (x := x) hn
  exact ⟨fun h => by rw [dP_f (h1 h)] at k; exact k, fun h => ⟨fun h' => by rw [dP_f (h2 h')] at k; exact k, fun h' => by rw [dP_t (h3 h h')] at k; exact k⟩⟩
/-- the same with n - 1 < x -/
theorem rng_c {x : Int32} {n : Nat} (hn : n + 1 < 2 ^ 31) (k : Q (some (.int (b01 (dP (isN x (n + 1)))))) σ) :
    (x < 0 → Q (some (.int 0)) σ) ∧ (¬ x < 0 → (nI n < x → Q (some (.int 0)) σ) ∧ (¬ nI n < x → Q (some (.int 1)) σ)) := by
  have e : nI n < x ↔ nI (n + 1) ≤ x := by rw [i_lt, i_le, nI_toInt (by omega), nI_toInt (by omega)]; omega
  rw [e]; exact rng_b hn k
theorem c156 {x : Int32} (k : Q (some (.int (b01 (dP (isN x 100))))) σ) : Cm Θ d 156 [.int x] σ Q := K156 (B156_0 (rng_c (n := 99) (by decide) k))
theorem c157 {x : Int32} (k : Q (some (.int (b01 (dP (isN x 241))))) σ) : Cm Θ d 157 [.int x] σ Q := K157 (B157_0 (rng_c (n := 240) (by decide) k))
theorem c248 {x : Int32} (k : Q (some (.int (b01 (dP (isN x 241))))) σ) : Cm Θ d 248 [.int x] σ Q := K248 (B248_0 (rng_c (n := 240) (by decide) k))
theorem c241 {x : Int32} (k : Q (some (.int (b01 (dP (isN x 10))))) σ) : Cm Θ d 241 [.int x] σ Q := K241 (B241_0 (rng_b (n := 10) (by decide) k))
theorem c282 {x : Int32} (k : Q (some (.int (b01 (dP (isN x 3))))) σ) : Cm Θ d 282 [.int x] σ Q := K282 (B282_0 (rng_b (n := 3) (by decide) k))
theorem c200 {x : Int32} {n : Nat} (hn : σ.1 124 38 = nI n) (h : n < 2 ^ 31) (k : Q (some (.int (b01 (dP (isN x n))))) σ) : Cm Θ d 200 [.ref 124, .int x] σ Q := by
  refine K200 (B200_0 ?_)
  rw [hn]; exact rng_b h k
theorem c201 {x : Int32} {n : Nat} (hn : σ.1 124 37 = nI n) (h : n < 2 ^ 31) (k : Q (some (.int (b01 (dP (isN x n))))) σ) : Cm Θ d 201 [.ref 124, .int x] σ Q := by
  refine K201 (B201_0 ?_)
  rw [hn]; exact rng_b h k
theorem c11' {o : Nat} {x : Int32} {n : Nat} (ho : (shq o).1 = 1) (hn : σ.1 o 0 = nI n) (h : n < 2 ^ 31) (k : Q (some (.int (b01 (dP (isN x n))))) σ) : Cm Θ d 11 [.ref o, .int x] σ Q := by
  refine K11 (B11_0 ho ?_)
  rw [hn]; exact rng_b h k
theorem c12' {o : Nat} {x : Int32} {n : Nat} (ho : (shq o).1 = 1) (hn : σ.1 o 4 = nI n) (h : n < 2 ^ 31) (k : Q (some (.int (b01 (dP (isN x n))))) σ) : Cm Θ d 12 [.ref o, .int x] σ Q := by
  refine K12 (B12_0 ho ?_)
  rw [hn]; exact rng_b h k
theorem part_b {x : Int32} (k : Q (some (.int (b01 (dP (isN x 2))))) σ) : (x = 0 → Q (some (.int 1)) σ) ∧ (¬ x = 0 → (¬ x = 1 → Q (some (.int 0)) σ) ∧ (x = 1 → Q (some (.int 1)) σ)) := by
  refine ⟨fun h => ?_, fun h => ⟨fun h2 => ?_, fun h2 => ?_⟩⟩
  · rw [dP_t (by rw [h]; exact ⟨by decide, by decide⟩)] at k; exact k
  · rw [dP_f (fun q => by
      rw [i_eq] at h h2
      have := q.1; have := q.2
      have e0 : (0 : Int32).toInt = 0 := rfl
      have e1 : (1 : Int32).toInt = 1 := rfl
      omega)] at k; exact k
  · rw [dP_t (by rw [h2]; exact ⟨by decide, by decide⟩)] at k; exact k
theorem c155 {x : Int32} (k : Q (some (.int (b01 (dP (isN x 2))))) σ) : Cm Θ d 155 [.int x] σ Q := K155 (B155_0 (part_b k))
theorem c213 {x : Int32} (k : Q (some (.int (b01 (dP (isN x 2))))) σ) : Cm Θ d 213 [.int x] σ Q := K213 (B213_0 (part_b k))
theorem c49 {o : Nat} {x : Int32} (ho : (shq o).1 = 5) (k : Q (some (.long (if x = 0 then σ.2.1 o 0 else σ.2.1 o 1))) σ) : Cm Θ d 49 [.ref o, .int x] σ Q :=
  K49 (B49_0 ho ⟨fun h => by rw [if_neg h] at k; exact k, fun h => by rw [if_pos h] at k; exact k⟩)
theorem c214 {x : Int32} (k : Q (some (.long (if x = 0 then σ.2.1 124 44 else σ.2.1 124 45))) σ) : Cm Θ d 214 [.ref 124, .int x] σ Q :=
  K214 (B214_0 ⟨fun h => by rw [if_neg h] at k; exact k, fun h => by rw [if_pos h] at k; exact k⟩)
/-- -1, 0, 1 -/
def sg (x y : Nat) : Int := if x < y then -1 else if x = y then 0 else 1
theorem jJ_leN {a b : Nat} (ha : a < 9223372036854775808) (hb : b < 9223372036854775808) : jJ a ≤ jJ b ↔ a ≤ b := by rw [jJ_le (by omega) (by omega) (by omega) (by omega)]; omega
theorem jJ_ltN {a b : Nat} (ha : a < 9223372036854775808) (hb : b < 9223372036854775808) : jJ a < jJ b ↔ a < b := by rw [jJ_lt (by omega) (by omega) (by omega) (by omega)]; omega
theorem jJ_eqN {a b : Nat} (ha : a < 9223372036854775808) (hb : b < 9223372036854775808) : jJ a = jJ b ↔ a = b := by rw [jJ_eq (by omega) (by omega) (by omega) (by omega)]; omega
theorem c287 {x y : Nat} (hx : x < 9223372036854775808) (hy : y < 9223372036854775808) (k : Q (some (.int (iI (sg x y)))) σ) : Cm Θ d 287 [.long (jJ x), .long (jJ y)] σ Q := by
  refine K287 (B287_0 ?_)
  rw [lc_ge, lc_eq, jJ_leN hy hx, jJ_eqN hx hy]
  unfold sg at k
  refine ⟨fun h => ⟨fun h2 => ?_, fun h2 => ?_⟩, fun h => ?_⟩
  · rw [if_neg (by omega), if_neg h2] at k; exact k
  · rw [if_neg (by omega), if_pos h2] at k; exact k
  · rw [if_pos (by omega)] at k; exact k
theorem sg_add (a b z : Nat) : sg (z + a) (z + b) = sg a b := by
  unfold sg
  by_cases c1 : a < b
  · rw [if_pos (by omega), if_pos c1]
  · rw [if_neg (by omega), if_neg c1]
    by_cases c2 : a = b
    · rw [if_pos (by omega), if_pos c2]
    · rw [if_neg (by omega), if_neg c2]
theorem sg_div {q q' r r' m : Nat} (hr : r < m) (hr' : r' < m) (h : q ≠ q') : sg q q' = sg (m * q + r) (m * q' + r') := by
  unfold sg
  rcases Nat.lt_or_ge q q' with c | c
  · have h5 : m * (q + 1) ≤ m * q' := Nat.mul_le_mul_left _ c
    rw [Nat.mul_add, Nat.mul_one] at h5
    rw [if_pos c, if_pos (by omega)]
  · have h5 : m * (q' + 1) ≤ m * q := Nat.mul_le_mul_left _ (by omega)
    rw [Nat.mul_add, Nat.mul_one] at h5
    rw [if_neg (by omega), if_neg h, if_neg (by omega), if_neg (by omega)]
theorem c51 {u l u' l' : Nat} (hl : 0 < l) (hl' : 0 < l') (hu : u < 9223372036854775808) (hu' : u' < 9223372036854775808) (hb : l * l' < 9223372036854775808) (k : Q (some (.int (iI (sg (u * l') (u' * l))))) σ) :
    Cm Θ (d + 1) 51 [.long (jJ u), .long (jJ l), .long (jJ u'), .long (jJ l')] σ Q := by
  have b1 : l < 9223372036854775808 := Nat.lt_of_le_of_lt (Nat.le_mul_of_pos_right l hl') hb
  have b2 : l' < 9223372036854775808 := Nat.lt_of_le_of_lt (Nat.le_mul_of_pos_left l' hl) hb
  have j0 : (0 : Int64) = jJ ((0 : Nat) : Int) := rfl
  have ne : ¬ jJ (l : Nat) = 0 := fun q => by rw [j0, jJ_eqN b1 (by decide)] at q; omega
  have ne' : ¬ jJ (l' : Nat) = 0 := fun q => by rw [j0, jJ_eqN b2 (by decide)] at q; omega
  have q1 := Nat.div_add_mod u l
  have q2 := Nat.div_add_mod u' l'
  have r1 := Nat.mod_lt u hl
  have r2 := Nat.mod_lt u' hl'
  have d1 : u / l < 9223372036854775808 := Nat.lt_of_le_of_lt (Nat.div_le_self u l) hu
  have d2 : u' / l' < 9223372036854775808 := Nat.lt_of_le_of_lt (Nat.div_le_self u' l') hu'
  have m1 : u % l * l' < l * l' := Nat.mul_lt_mul_of_pos_right r1 hl'
  have m2 : u' % l' * l < l * l' := by rw [Nat.mul_comm l l']; exact Nat.mul_lt_mul_of_pos_right r2 hl
  have e1 : u * l' = l * l' * (u / l) + u % l * l' := by
    conv => lhs; rw [← q1]
    rw [Nat.add_mul, Nat.mul_right_comm]
  have e2 : u' * l = l * l' * (u' / l') + u' % l' * l := by
    conv => lhs; rw [← q2]
    rw [Nat.add_mul, Nat.mul_right_comm, Nat.mul_comm l' l]
  refine K51 (B51_0 ⟨fun h => ?_, fun _ => ⟨fun _ => ⟨ne, ne', ⟨fun h => ⟨ne, ne', ?_⟩, fun h => ?_⟩⟩, fun h => ?_⟩⟩)
  · rw [lc_le, j0, jJ_leN b1 (by decide)] at h; omega
  · rw [lc_eq, jJ_divN hu b1, jJ_divN hu' b2, jJ_eqN d1 d2] at h
    rw [jJ_remN hu b1, jJ_remN hu' b2, jJ_mul, jJ_mul, ← Int.natCast_mul, ← Int.natCast_mul]
    refine ci (fun _ => c287 (Nat.lt_trans m1 hb) (Nat.lt_trans m2 hb)) ?_
    have e : sg (u % l * l') (u' % l' * l) = sg (u * l') (u' * l) := by rw [e1, e2, h, sg_add]
    rw [e]; exact k
  · rw [lc_eq, jJ_divN hu b1, jJ_divN hu' b2, jJ_eqN d1 d2] at h
    rw [jJ_divN hu b1, jJ_divN hu' b2]
    refine ci (fun _ => c287 d1 d2) ?_
    have e : sg (u / l) (u' / l') = sg (u * l') (u' * l) := by rw [e1, e2]; exact sg_div m1 m2 h
    rw [e]; exact k
  · refine absurd ?_ h
    rw [lc_pos, j0, jJ_ltN (by decide) b2]; exact hl'
theorem c165 {g a b : Nat} (hg : g < 2 ^ 30) (ha : a < 2 ^ 30) (hb : b < 2 ^ 30) (k : Q (some (.int (nI (if g < a then a - g else if b < g then g - b else 0)))) σ) : Cm Θ d 165 [.int (nI g), .int (nI a), .int (nI b)] σ Q := by
  refine K165 (B165_0 ?_)
  rw [nI_leI (by omega) (by omega), nI_leI (by omega) (by omega)]
  refine ⟨fun h => ⟨fun h2 => ?_, fun h2 => ?_⟩, fun h => ?_⟩
  · rw [if_neg (by omega), if_neg (by omega)] at k; exact k
  · rw [if_neg (by omega), if_pos (by omega)] at k
    rw [pk_sub (by omega)]; exact k
  · rw [if_pos (by omega)] at k
    rw [pk_sub (by omega)]; exact k
end small
