/-! RUNS, the mathematics: pools of an order by a key, what any rising numbers of months cost at the least -/
def iv (T : Nat → Bool) (κ : Nat → Nat) (a b : Nat) : Nat → Bool := fun c => T c && (decide (a ≤ κ c) && decide (κ c < b))
def ovk (κ : Nat → Nat) : Nat → Nat → Bool := fun a b => decide (κ b ≤ κ a)
theorem iv_iff {T : Nat → Bool} {κ : Nat → Nat} {a b c : Nat} : iv T κ a b c = true ↔ T c = true ∧ a ≤ κ c ∧ κ c < b := by
  simp only [iv, Bool.and_eq_true, decide_eq_true_eq]
theorem iv_parts {T : Nat → Bool} {κ : Nat → Nat} {a b d : Nat} (h1 : a ≤ b) (h2 : b ≤ d) (c : Nat) : (iv T κ a d c = true ↔ iv T κ b d c = true ∨ iv T κ a b c = true) ∧ ¬ (iv T κ b d c = true ∧ iv T κ a b c = true) := by
  rw [iv_iff, iv_iff, iv_iff]
  refine ⟨⟨fun h => ?_, fun h => ?_⟩, fun h => by omega⟩
  · rcases Nat.lt_or_ge (κ c) b with q | q
    · exact Or.inr ⟨h.1, h.2.1, q⟩
    · exact Or.inl ⟨h.1, q, h.2.2⟩
  · rcases h with h | h
    · exact ⟨h.1, by omega, h.2.2⟩
    · exact ⟨h.1, h.2.1, by omega⟩
theorem sN_iv {T : Nat → Bool} {κ : Nat → Nat} {a b d : Nat} (h1 : a ≤ b) (h2 : b ≤ d) (f : Nat → Nat) : sN 16 (fun c => if iv T κ a d c = true then f c else 0) = sN 16 (fun c => if iv T κ a b c = true then f c else 0) + sN 16 (fun c => if iv T κ b d c = true then f c else 0) := by
  rw [← sN_add]
  refine sN_congr 16 fun c _ => ?_
  have := iv_parts (T := T) (κ := κ) h1 h2 c
  cases q1 : iv T κ a d c <;> cases q2 : iv T κ a b c <;> cases q3 : iv T κ b d c <;> simp_all
section runs
variable {w g κ : Nat → Nat} {T : Nat → Bool}
theorem wT_iv {a b d : Nat} (h1 : a ≤ b) (h2 : b ≤ d) : wT w (iv T κ a d) = wT w (iv T κ a b) + wT w (iv T κ b d) := sN_iv h1 h2 w
theorem gT_iv {a b d : Nat} (h1 : a ≤ b) (h2 : b ≤ d) : gT w g (iv T κ a d) = gT w g (iv T κ a b) + gT w g (iv T κ b d) := sN_iv h1 h2 fun c => w c * g c
theorem qT_iv {a b d : Nat} (h1 : a ≤ b) (h2 : b ≤ d) : qT w g (iv T κ a d) = qT w g (iv T κ a b) + qT w g (iv T κ b d) := sN_iv h1 h2 fun c => w c * g c * g c
/-- no upper part is worth anything -/
def Leaf (w g : Nat → Nat) (T : Nat → Bool) (κ : Nat → Nat) (a b : Nat) : Prop := ∀ x, a ≤ x → x ≤ b → gT w g (iv T κ x b) * wT w (iv T κ a b) ≤ gT w g (iv T κ a b) * wT w (iv T κ x b)
theorem iv_none {a b : Nat} (h : b ≤ a) (c : Nat) : iv T κ a b c = false := by
  cases q : iv T κ a b c
  · rfl
  · have := iv_iff.mp q; omega
theorem wT_none {a b : Nat} (h : b ≤ a) : wT w (iv T κ a b) = 0 ∧ gT w g (iv T κ a b) = 0 := wT_0 fun c _ => iv_none h c
theorem leaf_one {a b : Nat} (h : ∀ c, c < 16 → iv T κ a b c = true → κ c = a) : Leaf w g T κ a b := by
  intro x h1 h2
  rcases Nat.lt_or_ge a x with q | q
  · have : wT w (iv T κ x b) = 0 ∧ gT w g (iv T κ x b) = 0 := wT_0 fun c hc => by
      cases z : iv T κ x b c
      · rfl
      · have := iv_iff.mp z
        have := h c hc (iv_iff.mpr ⟨this.1, by omega, this.2.2⟩)
        omega
    rw [this.1, this.2]; omega
  · have : x = a := by omega
    subst this; exact Nat.le_refl _
theorem leaf_merge {a b d : Nat} (h1 : a ≤ b) (h2 : b ≤ d) (hA : 0 < wT w (iv T κ a b)) (hB : 0 < wT w (iv T κ b d)) (l1 : Leaf w g T κ a b) (l2 : Leaf w g T κ b d) (hm : gT w g (iv T κ b d) * wT w (iv T κ a b) ≤ gT w g (iv T κ a b) * wT w (iv T κ b d)) : Leaf w g T κ a d := by
  intro x hx1 hx2
  rw [wT_iv h1 h2, gT_iv h1 h2]
  rcases Nat.lt_or_ge x b with q | q
  · have k1 := l1 x hx1 (by omega)
    rw [wT_iv (show x ≤ b by omega) h2, gT_iv (show x ≤ b by omega) h2]
    have eu := wT_iv (w := w) (T := T) (κ := κ) hx1 (show x ≤ b by omega)
    have ev := gT_iv (w := w) (g := g) (T := T) (κ := κ) hx1 (show x ≤ b by omega)
    generalize wT w (iv T κ a x) = u' at eu
    generalize gT w g (iv T κ a x) = v' at ev
    generalize wT w (iv T κ x b) = u at eu k1 ⊢
    generalize gT w g (iv T κ x b) = v at ev k1 ⊢
    generalize wT w (iv T κ a b) = A at *
    generalize gT w g (iv T κ a b) = P at *
    generalize wT w (iv T κ b d) = B at *
    generalize gT w g (iv T κ b d) = R at *
    subst eu; subst ev
    -- v (u' + u) ≤ (v' + v) u, so v u' ≤ v' u
    have k2 : v * u' ≤ v' * u := by rw [Nat.mul_add, Nat.add_mul] at k1; omega
    -- R u' ≤ v' B
    have k3 : R * u' ≤ v' * B := by
      have e1 : (v' + v) * u' ≤ v' * (u' + u) := by rw [Nat.add_mul, Nat.mul_add]; omega
      have e2 : R * (u' + u) * u' ≤ (v' + v) * B * u' := Nat.mul_le_mul_right _ hm
      have e3 : (v' + v) * u' * B ≤ v' * (u' + u) * B := Nat.mul_le_mul_right _ e1
      have e4 : (v' + v) * B * u' = (v' + v) * u' * B := Nat.mul_right_comm _ _ _
      have e5 : R * (u' + u) * u' = R * u' * (u' + u) := Nat.mul_right_comm _ _ _
      have e6 : v' * (u' + u) * B = v' * B * (u' + u) := Nat.mul_right_comm _ _ _
      exact Nat.le_of_mul_le_mul_right (c := u' + u) (by omega) hA
    have x1 : (v + R) * (u' + u + B) = v * u' + v * u + v * B + (R * u' + R * u + R * B) := by rw [Nat.add_mul, Nat.mul_add, Nat.mul_add, Nat.mul_add, Nat.mul_add]
    have x2 : (v' + v + R) * (u + B) = v' * u + v' * B + (v * u + v * B) + (R * u + R * B) := by rw [Nat.add_mul, Nat.add_mul, Nat.mul_add, Nat.mul_add, Nat.mul_add]
    rw [x1, x2]; omega
  · have k1 := l2 x q hx2
    generalize wT w (iv T κ x d) = u at k1 ⊢
    generalize gT w g (iv T κ x d) = v at k1 ⊢
    generalize wT w (iv T κ a b) = A at *
    generalize gT w g (iv T κ a b) = P at *
    generalize wT w (iv T κ b d) = B at *
    generalize gT w g (iv T κ b d) = R at *
    -- v B ≤ R u, R A ≤ P B: v A ≤ P u
    have k2 : v * A ≤ P * u := low_tr hB k1 hm
    rw [Nat.mul_add, Nat.add_mul]; omega
theorem mT_le {A B : Nat → Bool} (hA : 0 < wT w A) (hB : 0 < wT w B) (h : gT w g A * wT w B ≤ gT w g B * wT w A) : mT w g A ≤ mT w g B := by
  have e1 := mT_eq (w := w) (g := g) hA
  have e2 := mT_eq (w := w) (g := g) hB
  have pA := Rat.natCast_pos.mpr hA
  have pB := Rat.natCast_pos.mpr hB
  refine Rat.le_of_mul_le_mul_right (c := ((wT w A : Nat) : Rat) * ((wT w B : Nat) : Rat)) ?_ (Rat.mul_pos pA pB)
  have h' : ((gT w g A * wT w B : Nat) : Rat) ≤ ((gT w g B * wT w A : Nat) : Rat) := Rat.natCast_le_natCast.mpr h
  rw [Rat.natCast_mul, Rat.natCast_mul, ← e1, ← e2] at h'
  grind
theorem leaf_VI {a b : Nat} (hp : 0 < wT w (iv T κ a b)) (h : Leaf w g T κ a b) : VI 16 (ovk κ) (iv T κ a b) (qF w) (qF g) (fun _ => mT w g (iv T κ a b)) := by
  refine VI_leaf (sT_0 hp) fun V hV => ?_
  rcases Classical.em (∃ c, c < 16 ∧ V c = true) with q | q
  · -- the least key in V
    obtain ⟨c0, h0, h1, h2⟩ := minQ V (fun c => ((κ c : Nat) : Rat)) 16 q
    have hc0 := iv_iff.mp (hV.1 c0 h0 h1)
    have eV : ∀ c, c < 16 → V c = iv T κ (κ c0) b c := fun c hc => bool_eq ⟨fun z => by
      have z1 := iv_iff.mp (hV.1 c hc z)
      exact iv_iff.mpr ⟨z1.1, Rat.natCast_le_natCast.mp (h2 c hc z), z1.2.2⟩, fun z => by
      have z1 := iv_iff.mp z
      exact hV.2 c c0 hc h0 (iv_iff.mpr ⟨z1.1, by omega, z1.2.2⟩) h1 (decide_eq_true z1.2.1)⟩
    have e1 : sT 16 V (fun c => qF w c * (qF g c - mT w g (iv T κ a b))) = sT 16 (iv T κ (κ c0) b) (fun c => qF w c * (qF g c - mT w g (iv T κ a b))) := sQ_congr 16 fun c hc => by rw [eV c hc]
    rw [e1, sT_w]
    have hW := Rat.natCast_pos.mpr hp
    have hm := mT_eq (w := w) (g := g) hp
    have hl := h (κ c0) hc0.2.1 (by omega)
    have hl' : ((gT w g (iv T κ (κ c0) b) * wT w (iv T κ a b) : Nat) : Rat) ≤ ((gT w g (iv T κ a b) * wT w (iv T κ (κ c0) b) : Nat) : Rat) := Rat.natCast_le_natCast.mpr hl
    rw [Rat.natCast_mul, Rat.natCast_mul, ← hm] at hl'
    refine Rat.le_of_mul_le_mul_right (c := ((wT w (iv T κ a b) : Nat) : Rat)) ?_ hW
    grind
  · have : sT 16 V (fun c => qF w c * (qF g c - mT w g (iv T κ a b))) = 0 := by
      rw [sT, sQ_congr 16 (g := fun _ => 0) (fun c hc => by
        cases z : V c
        · simp
        · exact absurd ⟨c, hc, z⟩ q), sQ_zero]
    rw [this]; exact Rat.le_refl
/-- pools, one behind the other -/
def Pav (w g : Nat → Nat) (T : Nat → Bool) (κ : Nat → Nat) (r : Nat → Nat) (m : Nat) : Prop := r 0 = 0 ∧ ∀ j, j < m → r j < r (j + 1) ∧ 0 < wT w (iv T κ (r j) (r (j + 1))) ∧ Leaf w g T κ (r j) (r (j + 1))
def pW (w : Nat → Nat) (T : Nat → Bool) (κ r : Nat → Nat) (j : Nat) : Nat := wT w (iv T κ (r j) (r (j + 1)))
def pS (w g : Nat → Nat) (T : Nat → Bool) (κ r : Nat → Nat) (j : Nat) : Nat := gT w g (iv T κ (r j) (r (j + 1)))
def pM (w g : Nat → Nat) (T : Nat → Bool) (κ r : Nat → Nat) (j : Nat) : Rat := mT w g (iv T κ (r j) (r (j + 1)))
def pC (w g : Nat → Nat) (T : Nat → Bool) (κ r : Nat → Nat) (j : Nat) : Rat := mkRat ((qT w g (iv T κ (r j) (r (j + 1))) : Int) * (wT w (iv T κ (r j) (r (j + 1))) : Int) - (gT w g (iv T κ (r j) (r (j + 1))) : Int) * (gT w g (iv T κ (r j) (r (j + 1))) : Int)) (wT w (iv T κ (r j) (r (j + 1))))
def fL (M : Nat → Rat) (r : Nat → Nat) : Nat → Nat → Rat
  | 0, _ => 0
  | m + 1, k => if r m ≤ k then M m else fL M r m k
theorem r_mono {r : Nat → Nat} {m : Nat} (h : ∀ j, j < m → r j < r (j + 1)) {a b : Nat} (hab : a ≤ b) (hb : b ≤ m) : r a ≤ r b := by
  obtain ⟨k, rfl⟩ := Nat.exists_eq_add_of_le hab
  clear hab
  induction k with
  | zero => exact Nat.le_refl _
  | succ k ih => exact Nat.le_trans (ih (by omega)) (Nat.le_of_lt (h (a + k) (by omega)))
theorem fL_at {M : Nat → Rat} {r : Nat → Nat} {j k : Nat} : ∀ m, (∀ j, j < m → r j < r (j + 1)) → j < m → r j ≤ k → k < r (j + 1) → fL M r m k = M j
  | 0, _, h, _, _ => absurd h (Nat.not_lt_zero _)
  | m + 1, hr, h, h1, h2 => by
    show (if r m ≤ k then M m else fL M r m k) = M j
    by_cases q : j = m
    · subst q; rw [if_pos h1]
    · have := r_mono (m := m + 1) hr (show j + 1 ≤ m by omega) (by omega)
      rw [if_neg (by omega)]
      exact fL_at m (fun j hj => hr j (by omega)) (by omega) h1 h2
theorem pav_at {r : Nat → Nat} : ∀ m, (∀ j, j < m → r j < r (j + 1)) → r 0 = 0 → ∀ k, k < r m → ∃ j, j < m ∧ r j ≤ k ∧ k < r (j + 1)
  | 0, _, h0, k, hk => by omega
  | m + 1, hr, h0, k, hk => by
    rcases Nat.lt_or_ge k (r m) with q | q
    · obtain ⟨j, h1, h2, h3⟩ := pav_at m (fun j hj => hr j (by omega)) h0 k q
      exact ⟨j, by omega, h2, h3⟩
    · exact ⟨m, by omega, q, hk⟩
theorem pav_VI {r : Nat → Nat} : ∀ m, Pav w g T κ r m → (∀ j, j + 1 < m → pS w g T κ r j * pW w T κ r (j + 1) ≤ pS w g T κ r (j + 1) * pW w T κ r j) →
    VI 16 (ovk κ) (iv T κ 0 (r m)) (qF w) (qF g) (fun c => fL (pM w g T κ r) r m (κ c)) ∧ (∀ j, j + 1 = m → ∀ c, c < 16 → iv T κ 0 (r m) c = true → fL (pM w g T κ r) r m (κ c) ≤ pM w g T κ r j)
  | 0, h, _ => ⟨VI_none fun c _ => iv_none (by rw [h.1]; exact Nat.le_refl _) c, fun j hj => by omega⟩
  | m + 1, h, hr => by
    obtain ⟨i1, i2⟩ := pav_VI m ⟨h.1, fun j hj => h.2 j (by omega)⟩ (fun j hj => hr j (by omega))
    have hm := h.2 m (by omega)
    have hparts : ∀ c, c < 16 → (iv T κ 0 (r (m + 1)) c = true ↔ iv T κ (r m) (r (m + 1)) c = true ∨ iv T κ 0 (r m) c = true) ∧ ¬ (iv T κ (r m) (r (m + 1)) c = true ∧ iv T κ 0 (r m) c = true) := fun c _ => iv_parts (Nat.zero_le _) (Nat.le_of_lt hm.1) c
    have eU : ∀ c, c < 16 → iv T κ (r m) (r (m + 1)) c = true → pM w g T κ r m = fL (pM w g T κ r) r (m + 1) (κ c) := fun c _ hc => (if_pos (iv_iff.mp hc).2.1).symm
    have eL : ∀ c, c < 16 → iv T κ 0 (r m) c = true → fL (pM w g T κ r) r m (κ c) = fL (pM w g T κ r) r (m + 1) (κ c) := fun c _ hc => (if_neg (by have := (iv_iff.mp hc).2.2; omega)).symm
    have hle : ∀ c, c < 16 → iv T κ 0 (r m) c = true → fL (pM w g T κ r) r (m + 1) (κ c) ≤ pM w g T κ r m := fun c hc hh => by
      rw [← eL c hc hh]
      cases m with
      | zero => rw [iv_none (by rw [h.1]; exact Nat.le_refl _) c] at hh; cases hh
      | succ m =>
        have h1 := i2 m rfl c hc hh
        have h2 := mT_le (w := w) (g := g) (h.2 m (by omega)).2.1 hm.2.1 (hr m (by omega))
        have h2 : pM w g T κ r m ≤ pM w g T κ r (m + 1) := h2
        grind
    refine ⟨VI_glue (m := pM w g T κ r m) hparts (fun a b _ _ ha hb => decide_eq_false (by have := (iv_iff.mp ha).2.2; have := (iv_iff.mp hb).2.1; omega)) (VI_congr eU (leaf_VI hm.2.1 hm.2.2)) (VI_congr eL i1) (fun c hc hh => by rw [← eU c hc hh]; exact Rat.le_refl) hle, fun j hj c hc hh => ?_⟩
    have : j = m := by omega
    subst this
    rcases (hparts c hc).1.mp hh with q | q
    · rw [← eU c hc q]; exact Rat.le_refl
    · exact hle c hc q
theorem pav_cost {r : Nat → Nat} : ∀ m, Pav w g T κ r m → sT 16 (iv T κ 0 (r m)) (fun c => qF w c * ((qF g c - fL (pM w g T κ r) r m (κ c)) * (qF g c - fL (pM w g T κ r) r m (κ c)))) = sQ m (pC w g T κ r)
  | 0, h => by
    rw [sT, sQ_congr 16 (g := fun _ => 0) (fun c _ => by rw [iv_none (by rw [h.1]; exact Nat.le_refl _) c]; simp), sQ_zero]; rfl
  | m + 1, h => by
    have i1 := pav_cost m ⟨h.1, fun j hj => h.2 j (by omega)⟩
    have hm := h.2 m (by omega)
    have hparts : ∀ c, c < 16 → (iv T κ 0 (r (m + 1)) c = true ↔ iv T κ (r m) (r (m + 1)) c = true ∨ iv T κ 0 (r m) c = true) ∧ ¬ (iv T κ (r m) (r (m + 1)) c = true ∧ iv T κ 0 (r m) c = true) := fun c _ => iv_parts (Nat.zero_le _) (Nat.le_of_lt hm.1) c
    rw [sT_parts _ hparts]
    show _ = sQ m (pC w g T κ r) + pC w g T κ r m
    rw [← i1, Rat.add_comm]
    congr 1
    · exact sT_congr fun c _ hc => by
        rw [show fL (pM w g T κ r) r (m + 1) (κ c) = fL (pM w g T κ r) r m (κ c) from if_neg (by have := (iv_iff.mp hc).2.2; omega)]
    · rw [show pC w g T κ r m = _ from (sq_cost (w := w) (g := g) hm.2.1).symm]
      exact sT_congr fun c _ hc => by
        rw [show fL (pM w g T κ r) r (m + 1) (κ c) = pM w g T κ r m from if_pos (iv_iff.mp hc).2.1]; rfl
/-- a pool, kept at anything: what that costs at the least, if v is nearest to its mean -/
theorem pool_low {P : Nat → Bool} {f : Nat → Rat} {v : Rat} (hp : 0 < wT w P) (h : ∀ e, e < 16 → P e = true → (mT w g P - v) * (mT w g P - v) ≤ (mT w g P - f e) * (mT w g P - f e)) :
    ((qT w g P : Nat) : Rat) - (2 * ((gT w g P : Nat) : Rat) * v - ((wT w P : Nat) : Rat) * (v * v)) ≤ sT 16 P (fun c => qF w c * ((qF g c - mT w g P) * (qF g c - mT w g P))) + sT 16 P (fun c => qF w c * ((mT w g P - f c) * (mT w g P - f c))) ∧
    ((∃ e, e < 16 ∧ P e = true ∧ 0 < w e ∧ (mT w g P - v) * (mT w g P - v) < (mT w g P - f e) * (mT w g P - f e)) → ((qT w g P : Nat) : Rat) - (2 * ((gT w g P : Nat) : Rat) * v - ((wT w P : Nat) : Rat) * (v * v)) < sT 16 P (fun c => qF w c * ((qF g c - mT w g P) * (qF g c - mT w g P))) + sT 16 P (fun c => qF w c * ((mT w g P - f c) * (mT w g P - f c)))) := by
  have hm := mT_eq (w := w) (g := g) hp
  have e1 : sT 16 P (fun c => qF w c * ((qF g c - mT w g P) * (qF g c - mT w g P))) = ((qT w g P : Nat) : Rat) - mT w g P * ((gT w g P : Nat) : Rat) := by
    have x1 : sT 16 P (fun c => qF w c * ((qF g c - mT w g P) * (qF g c - mT w g P))) = sT 16 P (fun c => ((w c * g c * g c : Nat) : Rat)) - 2 * mT w g P * sT 16 P (fun c => ((w c * g c : Nat) : Rat)) + mT w g P * mT w g P * sT 16 P (fun c => ((w c : Nat) : Rat)) := by
      rw [← sT_mul, ← sT_mul, ← sT_sub, ← sT_add]
      refine sT_congr fun c _ _ => ?_
      show ((w c : Nat) : Rat) * ((((g c : Nat) : Rat) - mT w g P) * (((g c : Nat) : Rat) - mT w g P)) = ((w c * g c * g c : Nat) : Rat) - 2 * mT w g P * ((w c * g c : Nat) : Rat) + mT w g P * mT w g P * ((w c : Nat) : Rat)
      rw [Rat.natCast_mul, Rat.natCast_mul]; grind
    rw [x1, sT_castN, sT_castN, sT_castN]
    show ((qT w g P : Nat) : Rat) - 2 * mT w g P * ((gT w g P : Nat) : Rat) + mT w g P * mT w g P * ((wT w P : Nat) : Rat) = _
    rw [← hm]; grind
  have e2 : sT 16 P (fun c => qF w c * ((mT w g P - v) * (mT w g P - v))) = ((wT w P : Nat) : Rat) * ((mT w g P - v) * (mT w g P - v)) := by
    have x1 : sT 16 P (fun c => qF w c * ((mT w g P - v) * (mT w g P - v))) = (mT w g P - v) * (mT w g P - v) * sT 16 P (fun c => ((w c : Nat) : Rat)) := by
      rw [← sT_mul]
      refine sT_congr fun c _ _ => ?_
      show ((w c : Nat) : Rat) * _ = _
      grind
    rw [x1, sT_castN]
    show _ * ((wT w P : Nat) : Rat) = _
    grind
  have e3 : sT 16 P (fun c => qF w c * ((mT w g P - v) * (mT w g P - v))) ≤ sT 16 P (fun c => qF w c * ((mT w g P - f c) * (mT w g P - f c))) := sT_le fun c hc hP => Rat.mul_le_mul_of_nonneg_left (h c hc hP) Rat.natCast_nonneg
  have e4 : ((qT w g P : Nat) : Rat) - (2 * ((gT w g P : Nat) : Rat) * v - ((wT w P : Nat) : Rat) * (v * v)) = ((qT w g P : Nat) : Rat) - mT w g P * ((gT w g P : Nat) : Rat) + ((wT w P : Nat) : Rat) * ((mT w g P - v) * (mT w g P - v)) := by
    rw [← hm]; grind
  rw [e1, e4]
  rw [e2] at e3
  refine ⟨by grind, fun ⟨e, he, hP, hw, hlt⟩ => ?_⟩
  rcases Classical.em (sT 16 P (fun c => qF w c * ((mT w g P - f c) * (mT w g P - f c))) ≤ ((wT w P : Nat) : Rat) * ((mT w g P - v) * (mT w g P - v))) with q | q
  · exfalso
    rw [← e2] at q
    have z := sT_eq0 (T := P) (f := fun c => qF w c * ((mT w g P - f c) * (mT w g P - f c)) - qF w c * ((mT w g P - v) * (mT w g P - v))) (fun c hc hP => by
      have := Rat.mul_le_mul_of_nonneg_left (h c hc hP) (show 0 ≤ qF w c from Rat.natCast_nonneg)
      grind) (by rw [sT_sub]; grind) e he hP
    have hw' : 0 < qF w e := Rat.natCast_pos.mpr hw
    have := Rat.mul_lt_mul_of_pos_left hlt hw'
    grind
  · grind
end runs
