/-! RUNS, the mathematics: sequences of pools whose means rise; cuts of them; what a cut takes off the cost -/
def gnR (W S : Nat) : Rat := mkRat ((S * S : Nat) : Int) W
theorem gn_mul {W S : Nat} (h : 0 < W) : gnR W S * ((W : Nat) : Rat) = ((S : Nat) : Rat) * ((S : Nat) : Rat) := by
  rw [gnR, Rat.mkRat_eq_div]
  have h2 : ((W : Nat) : Rat) ≠ 0 := by
    have := Rat.natCast_pos.mpr h
    intro q; rw [q] at this; exact absurd this Rat.lt_irrefl
  show (((S * S : Nat) : Int) : Rat) / ((W : Nat) : Rat) * ((W : Nat) : Rat) = _
  rw [Rat.div_mul_cancel h2, icn, Rat.natCast_mul]
theorem sq_nn (x : Rat) : 0 ≤ x * x := by
  rcases Rat.le_total (a := 0) (b := x) with q | q
  · exact Rat.mul_nonneg q q
  · have := Rat.mul_nonneg (a := -x) (b := -x) (by grind) (by grind)
    grind
/-- a number of months for all of some takes off no more than their mean -/
theorem gn_max {W S : Nat} (h : 0 < W) (v : Rat) : 2 * ((S : Nat) : Rat) * v - ((W : Nat) : Rat) * (v * v) ≤ gnR W S := by
  have hW := Rat.natCast_pos.mpr h
  have e := gn_mul (S := S) h
  refine Rat.le_of_mul_le_mul_right (c := ((W : Nat) : Rat)) ?_ hW
  rw [e]
  have := sq_nn (((S : Nat) : Rat) - ((W : Nat) : Rat) * v)
  grind
theorem gn_split {W1 S1 W2 S2 : Nat} (h1 : 0 < W1) (h2 : 0 < W2) (hlt : S1 * W2 < S2 * W1) : gnR (W1 + W2) (S1 + S2) < gnR W1 S1 + gnR W2 S2 := by
  have e1 := gn_mul (S := S1) h1
  have e2 := gn_mul (S := S2) h2
  have e3 := gn_mul (W := W1 + W2) (S := S1 + S2) (by omega)
  rw [Rat.natCast_add, Rat.natCast_add] at e3
  have p1 := Rat.natCast_pos.mpr h1
  have p2 := Rat.natCast_pos.mpr h2
  have hlt' : ((S1 : Nat) : Rat) * ((W2 : Nat) : Rat) < ((S2 : Nat) : Rat) * ((W1 : Nat) : Rat) := by
    rw [← Rat.natCast_mul, ← Rat.natCast_mul]; exact Rat.natCast_lt_natCast.mpr hlt
  generalize ((W1 : Nat) : Rat) = a at e1 e3 p1 hlt'
  generalize ((W2 : Nat) : Rat) = b at e2 e3 p2 hlt'
  generalize ((S1 : Nat) : Rat) = s at e1 e3 hlt'
  generalize ((S2 : Nat) : Rat) = t at e2 e3 hlt'
  generalize gnR W1 S1 = x at e1 ⊢
  generalize gnR W2 S2 = y at e2 ⊢
  generalize gnR (W1 + W2) (S1 + S2) = z at e3 ⊢
  have pos : 0 < (t * a - s * b) * (t * a - s * b) := Rat.mul_pos (by grind) (by grind)
  have pab : 0 < a * b := Rat.mul_pos p1 p2
  have pabc : 0 < a * b * (a + b) := Rat.mul_pos pab (by grind)
  have key : (x + y - z) * (a * b * (a + b)) = (t * a - s * b) * (t * a - s * b) := by grind
  rcases Rat.le_total (a := x + y - z) (b := 0) with q | q
  · have := Rat.mul_nonneg (a := -(x + y - z)) (b := a * b * (a + b)) (by grind) (Rat.le_of_lt pabc)
    grind
  · rcases Classical.em (x + y - z = 0) with e | e
    · rw [e, Rat.zero_mul] at key; rw [← key] at pos; exact absurd pos Rat.lt_irrefl
    · grind
def Rise (p : Nat) (W S : Nat → Nat) : Prop := (∀ j, j < p → 0 < W j) ∧ ∀ j, j + 1 < p → S j * W (j + 1) < S (j + 1) * W j
section rise
variable {p : Nat} {W S : Nat → Nat}
theorem sN_mono {f : Nat → Nat} {a b : Nat} (h : a ≤ b) : sN a f ≤ sN b f := by
  obtain ⟨k, rfl⟩ := Nat.exists_eq_add_of_le h
  induction k with
  | zero => exact Nat.le_refl _
  | succ k ih => exact Nat.le_trans (ih (by omega)) (show sN (a + k) f ≤ sN (a + k) f + f (a + k) by omega)
theorem rise_le (h : Rise p W S) {c : Nat} : ∀ b, c ≤ b → b < p → S c * W b ≤ S b * W c := by
  intro b
  induction b with
  | zero => intro h1 _; have : c = 0 := by omega
            subst this; exact Nat.le_refl _
  | succ b ih =>
    intro h1 h2
    rcases Nat.lt_or_ge b c with q | q
    · have : c = b + 1 := by omega
      subst this; exact Nat.le_refl _
    · exact low_tr (h.1 b (by omega)) (ih q (by omega)) (Nat.le_of_lt (h.2 b h2))
theorem rise_lo (h : Rise p W S) {a : Nat} : ∀ c, a ≤ c → c < p → (sN (c + 1) S - sN a S) * W c ≤ S c * (sN (c + 1) W - sN a W) := by
  intro c
  induction c with
  | zero =>
    intro h1 _
    have : a = 0 := by omega
    subst this
    show (0 + S 0 - 0) * W 0 ≤ S 0 * (0 + W 0 - 0)
    rw [Nat.zero_add, Nat.zero_add, Nat.sub_zero, Nat.sub_zero]; exact Nat.le_refl _
  | succ c ih =>
    intro h1 h2
    have eS : sN (c + 1 + 1) S = sN (c + 1) S + S (c + 1) := rfl
    have eW : sN (c + 1 + 1) W = sN (c + 1) W + W (c + 1) := rfl
    have mS := sN_mono (f := S) h1
    have mW := sN_mono (f := W) h1
    have e1 : sN (c + 1 + 1) S - sN a S = (sN (c + 1) S - sN a S) + S (c + 1) := by omega
    have e2 : sN (c + 1 + 1) W - sN a W = (sN (c + 1) W - sN a W) + W (c + 1) := by omega
    rw [e1, e2, Nat.add_mul, Nat.mul_add]
    rcases Nat.lt_or_ge c a with q | q
    · have : a = c + 1 := by omega
      subst this
      rw [Nat.sub_self, Nat.sub_self]; omega
    · have := low_tr (h.1 c (by omega)) (ih q (by omega)) (Nat.le_of_lt (h.2 c h2))
      omega
theorem rise_hi (h : Rise p W S) {c : Nat} : ∀ b, c < b → b ≤ p → S c * (sN b W - sN c W) ≤ (sN b S - sN c S) * W c := by
  intro b
  induction b with
  | zero => intro h1 _; omega
  | succ b ih =>
    intro h1 h2
    have eS : sN (b + 1) S = sN b S + S b := rfl
    have eW : sN (b + 1) W = sN b W + W b := rfl
    have mS := sN_mono (f := S) (show c ≤ b by omega)
    have mW := sN_mono (f := W) (show c ≤ b by omega)
    have e1 : sN (b + 1) S - sN c S = (sN b S - sN c S) + S b := by omega
    have e2 : sN (b + 1) W - sN c W = (sN b W - sN c W) + W b := by omega
    rw [e1, e2, Nat.add_mul, Nat.mul_add]
    have := rise_le h b (show c ≤ b by omega) (by omega)
    rcases Nat.lt_or_ge c b with q | q
    · have := ih q (by omega); omega
    · have : c = b := by omega
      subst this
      rw [Nat.sub_self, Nat.sub_self]; omega
theorem rise_W (h : Rise p W S) {a b : Nat} (hab : a < b) (hb : b ≤ p) : 0 < sN b W - sN a W := by
  have : sN (a + 1) W ≤ sN b W := sN_mono hab
  have e : sN (a + 1) W = sN a W + W a := rfl
  have := h.1 a (by omega)
  omega
theorem rise_mid (h : Rise p W S) {a c b : Nat} (hac : a < c) (hcb : c < b) (hb : b ≤ p) : (sN c S - sN a S) * (sN b W - sN c W) < (sN b S - sN c S) * (sN c W - sN a W) := by
  obtain ⟨c', rfl⟩ : ∃ c', c = c' + 1 := ⟨c - 1, by omega⟩
  have h1 := rise_lo h c' (show a ≤ c' by omega) (by omega)
  have h2 := h.2 c' (by omega)
  have h3 := rise_hi h b hcb hb
  have Y1 := rise_W h hac (by omega)
  have Y2 := rise_W h hcb hb
  have w0 := h.1 c' (by omega)
  have w1 := h.1 (c' + 1) (by omega)
  generalize sN (c' + 1) S - sN a S = X1 at h1 ⊢
  generalize sN (c' + 1) W - sN a W = Z1 at h1 Y1 ⊢
  generalize sN b S - sN (c' + 1) S = X2 at h3 ⊢
  generalize sN b W - sN (c' + 1) W = Z2 at h3 Y2 ⊢
  generalize W c' = p0 at h1 h2 w0
  generalize W (c' + 1) = p1 at h2 h3 w1
  generalize S c' = s0 at h1 h2
  generalize S (c' + 1) = s1 at h2 h3
  -- X1 p0 ≤ s0 Z1, s0 p1 < s1 p0, s1 Z2 ≤ X2 p1
  have k1 : X1 * p1 < s1 * Z1 := by
    have a1 : X1 * p0 * p1 ≤ s0 * Z1 * p1 := Nat.mul_le_mul_right _ h1
    have a2 : s0 * p1 * Z1 < s1 * p0 * Z1 := Nat.mul_lt_mul_of_pos_right h2 Y1
    have e1 : s0 * Z1 * p1 = s0 * p1 * Z1 := Nat.mul_right_comm _ _ _
    have e2 : X1 * p0 * p1 = X1 * p1 * p0 := Nat.mul_right_comm _ _ _
    have e3 : s1 * p0 * Z1 = s1 * Z1 * p0 := Nat.mul_right_comm _ _ _
    exact Nat.lt_of_mul_lt_mul_right (a := p0) (by omega)
  have a1 : X1 * p1 * Z2 < s1 * Z1 * Z2 := Nat.mul_lt_mul_of_pos_right k1 Y2
  have a2 : s1 * Z2 * Z1 ≤ X2 * p1 * Z1 := Nat.mul_le_mul_right _ h3
  have e1 : s1 * Z1 * Z2 = s1 * Z2 * Z1 := Nat.mul_right_comm _ _ _
  have e2 : X1 * p1 * Z2 = X1 * Z2 * p1 := Nat.mul_right_comm _ _ _
  have e3 : X2 * p1 * Z1 = X2 * Z1 * p1 := Nat.mul_right_comm _ _ _
  exact Nat.lt_of_mul_lt_mul_right (a := p1) (by omega)
end rise
/-- what the pools i .. j-1 take off the cost together -/
def gq (W S : Nat → Nat) (i j : Nat) : Rat := gnR (sN j W - sN i W) (sN j S - sN i S)
theorem gq_split {p : Nat} {W S : Nat → Nat} (h : Rise p W S) {a c b : Nat} (hac : a < c) (hcb : c < b) (hb : b ≤ p) : gq W S a b < gq W S a c + gq W S c b := by
  have h1 := gn_split (rise_W h hac (by omega)) (rise_W h hcb hb) (rise_mid h hac hcb hb)
  have m1 := sN_mono (f := S) (show a ≤ c by omega)
  have m2 := sN_mono (f := S) (show c ≤ b by omega)
  have m3 := sN_mono (f := W) (show a ≤ c by omega)
  have m4 := sN_mono (f := W) (show c ≤ b by omega)
  rw [show sN c W - sN a W + (sN b W - sN c W) = sN b W - sN a W by omega, show sN c S - sN a S + (sN b S - sN c S) = sN b S - sN a S by omega] at h1
  exact h1
/-- so many cuts of the first j pools: what they take off together, and the bits at which runs begin -/
def Ct (q : Nat → Nat) (G : Nat → Nat → Rat) : Nat → Nat → Rat → Nat → Prop
  | 0, j, γ, β => 0 < j ∧ γ = G 0 j ∧ β = 0
  | k + 1, j, γ, β => ∃ (i : Nat) (γ' : Rat) (β' : Nat), k + 1 ≤ i ∧ i < j ∧ Ct q G k i γ' β' ∧ γ = γ' + G i j ∧ β = β' + 2 ^ q i
def Btq (q : Nat → Nat) (G : Nat → Nat → Rat) (k j : Nat) (γ : Rat) (β : Nat) : Prop := Ct q G k j γ β ∧ ∀ γ' β', Ct q G k j γ' β' → γ' ≤ γ ∧ (γ' = γ → β ≤ β')
theorem ct_more {q : Nat → Nat} {G : Nat → Nat → Rat} {p : Nat} (hs : ∀ a c b, a < c → c < b → b ≤ p → G a b < G a c + G c b) : ∀ k j γ β, j ≤ p → k + 2 ≤ j → Ct q G k j γ β → ∃ γ2 β2, Ct q G (k + 1) j γ2 β2 ∧ γ < γ2
  | 0, j, γ, β, hj, hk, ⟨h0, hγ, hβ⟩ => ⟨G 0 1 + G 1 j, 0 + 2 ^ q 1, ⟨1, G 0 1, 0, Nat.le_refl _, by omega, ⟨by decide, rfl, rfl⟩, rfl, rfl⟩, by rw [hγ]; exact hs 0 1 j (by omega) (by omega) hj⟩
  | k + 1, j, γ, β, hj, hk, ⟨i, γ', β', h1, h2, h3, hγ, hβ⟩ => by
    rcases Nat.lt_or_ge (i + 1) j with z | z
    · refine ⟨(γ' + G i (i + 1)) + G (i + 1) j, (β' + 2 ^ q i) + 2 ^ q (i + 1), ⟨i + 1, _, _, by omega, z, ⟨i, γ', β', h1, by omega, h3, rfl, rfl⟩, rfl, rfl⟩, ?_⟩
      rw [hγ]
      have := hs i (i + 1) j (by omega) z hj
      grind
    · obtain ⟨γ2, β2, h4, h5⟩ := ct_more hs k i γ' β' (by omega) (by omega) h3
      refine ⟨γ2 + G i j, β2 + 2 ^ q i, ⟨i, γ2, β2, by omega, h2, h4, rfl, rfl⟩, ?_⟩
      rw [hγ]; grind
theorem ct_many {q : Nat → Nat} {G : Nat → Nat → Rat} {p : Nat} (hs : ∀ a c b, a < c → c < b → b ≤ p → G a b < G a c + G c b) {k : Nat} {γ : Rat} {β : Nat} (h : Ct q G k p γ β) : ∀ m, k + m + 1 ≤ p → ∃ γ2 β2, Ct q G (k + m) p γ2 β2 ∧ γ ≤ γ2 ∧ (0 < m → γ < γ2)
  | 0, _ => ⟨γ, β, h, Rat.le_refl, fun h => absurd h (Nat.lt_irrefl _)⟩
  | m + 1, hm => by
    obtain ⟨γ2, β2, h1, h2, -⟩ := ct_many hs h m (by omega)
    obtain ⟨γ3, β3, h3, h4⟩ := ct_more hs (k + m) p γ2 β2 (Nat.le_refl _) (by omega) h1
    exact ⟨γ3, β3, h3, by grind, fun _ => by grind⟩
/-- the best of one cut more -/
theorem btq_step {q : Nat → Nat} {G : Nat → Nat → Rat} {k j : Nat} {γ : Rat} {β : Nat} (hc : Ct q G (k + 1) j γ β) (h : ∀ i, k + 1 ≤ i → i < j → ∃ γi βi, Btq q G k i γi βi ∧ γi + G i j ≤ γ ∧ (γi + G i j = γ → β ≤ βi + 2 ^ q i)) : Btq q G (k + 1) j γ β := by
  refine ⟨hc, ?_⟩
  rintro γ2 β2 ⟨i, γ', β', h1, h2, h3, rfl, rfl⟩
  obtain ⟨γi, βi, h4, h5, h6⟩ := h i h1 h2
  have h7 := h4.2 γ' β' h3
  refine ⟨by grind, fun e => ?_⟩
  have e1 : γ' = γi := by grind
  have := h7.2 e1
  have := h6 (by rw [← e1]; exact e)
  omega
theorem ct_bits {q : Nat → Nat} {G : Nat → Nat → Rat} {p : Nat} (hq : ∀ i j, i < j → j ≤ p → q i < q j) : ∀ k j γ β, j ≤ p → Ct q G k j γ β → k < j ∧ β < 2 ^ q j
  | 0, j, γ, β, _, ⟨h0, _, hβ⟩ => ⟨h0, by rw [hβ]; exact Nat.two_pow_pos _⟩
  | k + 1, j, γ, β, hj, ⟨i, γ', β', h1, h2, h3, _, hβ⟩ => by
    have h4 := ct_bits hq k i γ' β' (by omega) h3
    have h5 := hq i j h2 hj
    have h6 : 2 ^ (q i + 1) ≤ 2 ^ q j := Nat.pow_le_pow_right (by decide) h5
    have h7 : 2 ^ (q i + 1) = 2 ^ q i * 2 := Nat.pow_succ _ _
    exact ⟨by omega, by rw [hβ]; omega⟩
theorem tb_top {β x : Nat} (h : β < 2 ^ x) (s : Nat) : (β + 2 ^ x).testBit s = (β.testBit s || decide (s = x)) := by
  rw [Nat.add_comm]
  rcases Nat.lt_trichotomy s x with z | z | z
  · rw [Nat.testBit_two_pow_add_gt z, decide_eq_false (by omega), Bool.or_false]
  · subst z
    rw [Nat.testBit_two_pow_add_eq, Nat.testBit_lt_two_pow h, decide_eq_true rfl]; rfl
  · have h1 : 2 ^ x + β < 2 ^ s := by
      have h2 : 2 ^ (x + 1) ≤ 2 ^ s := Nat.pow_le_pow_right (by decide) z
      have h3 : 2 ^ (x + 1) = 2 ^ x * 2 := Nat.pow_succ _ _
      omega
    rw [Nat.testBit_lt_two_pow h1, Nat.testBit_lt_two_pow (Nat.lt_of_lt_of_le h (Nat.pow_le_pow_right (by decide) (by omega))), decide_eq_false (by omega)]; rfl
theorem pc_top {β x : Nat} (h : β < 2 ^ x) (hx : x < 16) : pc 16 (β + 2 ^ x) = pc 16 β + 1 := by
  have e := cN_two (s := (β + 2 ^ x).testBit) (p := β.testBit) (q := fun s => decide (s = x)) 16 fun s _ => ⟨tb_top h s, fun ⟨h1, h2⟩ => by
    have := of_decide_eq_true h2
    subst this
    rw [Nat.testBit_lt_two_pow h] at h1; cases h1⟩
  have e2 : cN 16 (fun s => decide (s = x)) = 1 := by
    have : ∀ x, x < 16 → cN 16 (fun s => decide (s = x)) = 1 := by decide
    exact this x hx
  show cN 16 _ = cN 16 _ + 1
  rw [e, e2]
/-- the last bit at or ahead of s (or 0) -/
def kA (A : Nat) : Nat → Nat
  | 0 => 0
  | s + 1 => if A.testBit (s + 1) = true then s + 1 else kA A s
theorem kA_le (A : Nat) : ∀ s, kA A s ≤ s
  | 0 => Nat.le_refl _
  | s + 1 => by
    show (if A.testBit (s + 1) = true then s + 1 else kA A s) ≤ s + 1
    have := kA_le A s
    split <;> omega
theorem kA_const {A : Nat} {h : Nat → Rat} (hc : ∀ s, A.testBit (s + 1) = false → h (s + 1) = h s) : ∀ s, h (kA A s) = h s
  | 0 => rfl
  | s + 1 => by
    show h (if A.testBit (s + 1) = true then s + 1 else kA A s) = h (s + 1)
    cases q : A.testBit (s + 1)
    · rw [if_neg (by decide), kA_const hc s, hc s q]
    · rw [if_pos rfl]
theorem kA_mono (A : Nat) {s t : Nat} (h : s ≤ t) : kA A s ≤ kA A t := by
  obtain ⟨k, rfl⟩ := Nat.exists_eq_add_of_le h
  clear h
  induction k with
  | zero => exact Nat.le_refl _
  | succ k ih =>
    show kA A s ≤ (if A.testBit (s + k + 1) = true then s + k + 1 else kA A (s + k))
    have := kA_le A s
    split <;> omega
theorem kA_eq {A s t : Nat} (h : s ≤ t) (hb : ∀ x, s < x → x ≤ t → A.testBit x = false) : kA A s = kA A t := by
  obtain ⟨k, rfl⟩ := Nat.exists_eq_add_of_le h
  clear h
  induction k with
  | zero => rfl
  | succ k ih =>
    show kA A s = (if A.testBit (s + k + 1) = true then s + k + 1 else kA A (s + k))
    rw [hb (s + k + 1) (by omega) (by omega), if_neg (by decide)]
    exact ih fun x h1 h2 => hb x h1 (by omega)
