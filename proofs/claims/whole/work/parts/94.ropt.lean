/-! RUNS, the mathematics: the best cuts of the pools are the best runs -/
/-- what the runs that begin at the bits of A cost -/
def RCost (w g : Nat → Nat) (T : Nat → Bool) (st : Nat → Nat) (A : Nat) (r : Rat) : Prop :=
  ∃ f, VI 16 (ovk fun c => kA A (st c)) T (qF w) (qF g) f ∧ r = sT 16 T (fun c => qF w c * ((qF g c - f c) * (qF g c - f c)))
def RunOpt (w g : Nat → Nat) (T : Nat → Bool) (st : Nat → Nat) (to most : Nat) (r : Rat) (β : Nat) : Prop :=
  (β < 2 ^ (to + 1) ∧ β.testBit 0 = false ∧ pc 16 β + 1 ≤ most) ∧ RCost w g T st β r ∧
  ∀ A r', A < 2 ^ (to + 1) → A.testBit 0 = false → pc 16 A + 1 ≤ most → RCost w g T st A r' → r ≤ r' ∧ (r' = r → pc 16 β < pc 16 A ∨ (pc 16 β = pc 16 A ∧ β ≤ A))
theorem runopt_one {w g st : Nat → Nat} {T : Nat → Bool} {to most : Nat} {r r' : Rat} {β β' : Nat} (h : RunOpt w g T st to most r β) (h' : RunOpt w g T st to most r' β') : r = r' ∧ β = β' := by
  have h1 := h.2.2 β' r' h'.1.1 h'.1.2.1 h'.1.2.2 h'.2.1
  have h2 := h'.2.2 β r h.1.1 h.1.2.1 h.1.2.2 h.2.1
  have e : r = r' := Rat.le_antisymm h1.1 h2.1
  have a1 := h1.2 e.symm
  have a2 := h2.2 e
  exact ⟨e, by omega⟩
section ropt
variable {w g st : Nat → Nat} {T : Nat → Bool} {p : Nat} {q : Nat → Nat}
/-- of some, one whose number is nearest to m, of like ones the highest -/
theorem near_one (P : Nat → Bool) (f : Nat → Rat) (m : Rat) (h : ∃ k, k < 16 ∧ P k = true) : ∃ k, k < 16 ∧ P k = true ∧ ∀ e, e < 16 → P e = true → (m - f k) * (m - f k) ≤ (m - f e) * (m - f e) ∧ ((m - f e) * (m - f e) ≤ (m - f k) * (m - f k) → f e ≤ f k) := by
  obtain ⟨k0, h0, h1, h2⟩ := minQ P (fun e => (m - f e) * (m - f e)) 16 h
  obtain ⟨k, g0, g1, g2⟩ := minQ (fun e => P e && decide ((m - f e) * (m - f e) ≤ (m - f k0) * (m - f k0))) (fun e => - f e) 16 ⟨k0, h0, by rw [h1, decide_eq_true Rat.le_refl]; rfl⟩
  rw [Bool.and_eq_true, decide_eq_true_eq] at g1
  refine ⟨k, g0, g1.1, fun e he hP => ?_⟩
  have a1 := h2 e he hP
  refine ⟨by have := g1.2; grind, fun hle => ?_⟩
  have := g2 e he (by rw [hP, decide_eq_true (by have := g1.2; grind)]; rfl)
  grind
theorem rise_of (h : Pav w g T st q p) (hr : ∀ j, j + 1 < p → pS w g T st q j * pW w T st q (j + 1) < pS w g T st q (j + 1) * pW w T st q j) : Rise p (pW w T st q) (pS w g T st q) :=
  ⟨fun j hj => (h.2 j hj).2.1, hr⟩
/-- what some rising numbers cost at the least: v nearest to the mean of each pool -/
theorem low_bound {f v : Nat → Rat} (h : Pav w g T st q p) (hr : ∀ j, j + 1 < p → pS w g T st q j * pW w T st q (j + 1) < pS w g T st q (j + 1) * pW w T st q j) (hT : ∀ c, c < 16 → T c = true → st c < q p) (hw : ∀ c, c < 16 → T c = true → 0 < w c)
    (hf : isoO 16 (ovk st) T f) (hv : ∀ j, j < p → ∀ e, e < 16 → iv T st (q j) (q (j + 1)) e = true → (pM w g T st q j - v j) * (pM w g T st q j - v j) ≤ (pM w g T st q j - f e) * (pM w g T st q j - f e)) :
    ((qT w g T : Nat) : Rat) - sQ p (fun j => 2 * ((pS w g T st q j : Nat) : Rat) * v j - ((pW w T st q j : Nat) : Rat) * (v j * v j)) ≤ sT 16 T (fun c => qF w c * ((qF g c - f c) * (qF g c - f c))) ∧
    ((∃ j, j < p ∧ ∃ e, e < 16 ∧ iv T st (q j) (q (j + 1)) e = true ∧ (pM w g T st q j - v j) * (pM w g T st q j - v j) < (pM w g T st q j - f e) * (pM w g T st q j - f e)) →
      ((qT w g T : Nat) : Rat) - sQ p (fun j => 2 * ((pS w g T st q j : Nat) : Rat) * v j - ((pW w T st q j : Nat) : Rat) * (v j * v j)) < sT 16 T (fun c => qF w c * ((qF g c - f c) * (qF g c - f c)))) := by
  have eT : ∀ c, c < 16 → T c = iv T st 0 (q p) c := fun c hc => bool_eq ⟨fun z => iv_iff.mpr ⟨z, Nat.zero_le _, hT c hc z⟩, fun z => (iv_iff.mp z).1⟩
  obtain ⟨hVI, -⟩ := pav_VI p h (fun j hj => Nat.le_of_lt (hr j hj))
  have hinc : ∀ j, j < p → q j < q (j + 1) := fun j hj => (h.2 j hj).1
  obtain ⟨H, hH⟩ : ∃ H : Nat → Rat, H = fun c => fL (pM w g T st q) q p (st c) := ⟨_, rfl⟩
  have hVI : VI 16 (ovk st) (iv T st 0 (q p)) (qF w) (qF g) H := by rw [hH]; exact hVI
  have hx := hVI.2 f (fun a b ha hb hTa hTb ho => hf a b ha hb (by rw [eT a ha]; exact hTa) (by rw [eT b hb]; exact hTb) ho)
  have e0 : ∀ F : Nat → Rat, sT 16 T F = sT 16 (iv T st 0 (q p)) F := fun F => sQ_congr 16 fun c hc => by rw [eT c hc]
  have e1 : sT 16 T (fun c => qF w c * ((qF g c - f c) * (qF g c - f c))) = sT 16 (iv T st 0 (q p)) (fun c => qF w c * ((qF g c - H c) * (qF g c - H c)) + qF w c * ((H c - f c) * (H c - f c))) - 2 * sT 16 (iv T st 0 (q p)) (fun c => qF w c * (qF g c - H c) * (f c - H c)) := by
    rw [e0, ← sT_mul, ← sT_sub]
    exact sT_congr fun c _ _ => by grind
  have qle : ∀ j, j ≤ p → q j ≤ q p := fun j hj => r_mono hinc hj (Nat.le_refl _)
  have main : ∀ j, j ≤ p → (((qT w g (iv T st 0 (q j)) : Nat) : Rat) - sQ j (fun j => 2 * ((pS w g T st q j : Nat) : Rat) * v j - ((pW w T st q j : Nat) : Rat) * (v j * v j)) ≤ sT 16 (iv T st 0 (q j)) (fun c => qF w c * ((qF g c - H c) * (qF g c - H c)) + qF w c * ((H c - f c) * (H c - f c)))) ∧
      ((∃ j', j' < j ∧ ∃ e, e < 16 ∧ iv T st (q j') (q (j' + 1)) e = true ∧ (pM w g T st q j' - v j') * (pM w g T st q j' - v j') < (pM w g T st q j' - f e) * (pM w g T st q j' - f e)) → ((qT w g (iv T st 0 (q j)) : Nat) : Rat) - sQ j (fun j => 2 * ((pS w g T st q j : Nat) : Rat) * v j - ((pW w T st q j : Nat) : Rat) * (v j * v j)) < sT 16 (iv T st 0 (q j)) (fun c => qF w c * ((qF g c - H c) * (qF g c - H c)) + qF w c * ((H c - f c) * (H c - f c)))) := by
    intro j
    induction j with
    | zero =>
      intro _
      refine ⟨?_, fun ⟨j', hj', _⟩ => absurd hj' (Nat.not_lt_zero _)⟩
      have z1 : sT 16 (iv T st 0 (q 0)) (fun c => qF w c * ((qF g c - H c) * (qF g c - H c)) + qF w c * ((H c - f c) * (H c - f c))) = 0 := by
        rw [sT, sQ_congr 16 (g := fun _ => 0) (fun c _ => by rw [iv_none (by rw [h.1]; exact Nat.le_refl _) c]; simp), sQ_zero]
      have z2 : qT w g (iv T st 0 (q 0)) = 0 := by
        show sN 16 _ = 0
        rw [sN_congr 16 (g := fun _ => 0) (fun c _ => by rw [iv_none (by rw [h.1]; exact Nat.le_refl _) c]; rfl)]; rfl
      rw [z1, z2]
      show ((0 : Nat) : Rat) - 0 ≤ 0
      grind
    | succ j ih =>
      intro hj
      obtain ⟨i1, i2⟩ := ih (by omega)
      have hj' := h.2 j (by omega)
      have hparts : ∀ c, c < 16 → (iv T st 0 (q (j + 1)) c = true ↔ iv T st (q j) (q (j + 1)) c = true ∨ iv T st 0 (q j) c = true) ∧ ¬ (iv T st (q j) (q (j + 1)) c = true ∧ iv T st 0 (q j) c = true) := fun c _ => iv_parts (Nat.zero_le _) (Nat.le_of_lt hj'.1) c
      have eq : qT w g (iv T st 0 (q (j + 1))) = qT w g (iv T st 0 (q j)) + qT w g (iv T st (q j) (q (j + 1))) := qT_iv (Nat.zero_le _) (Nat.le_of_lt hj'.1)
      have eH : ∀ c, c < 16 → iv T st (q j) (q (j + 1)) c = true → H c = pM w g T st q j := fun c _ hc => by
        rw [hH]; exact fL_at p hinc (by omega) (iv_iff.mp hc).2.1 (iv_iff.mp hc).2.2
      have low := pool_low (w := w) (g := g) (f := f) (v := v j) hj'.2.1 (hv j (by omega))
      have esum : sT 16 (iv T st (q j) (q (j + 1))) (fun c => qF w c * ((qF g c - H c) * (qF g c - H c)) + qF w c * ((H c - f c) * (H c - f c))) = sT 16 (iv T st (q j) (q (j + 1))) (fun c => qF w c * ((qF g c - mT w g (iv T st (q j) (q (j + 1)))) * (qF g c - mT w g (iv T st (q j) (q (j + 1)))))) + sT 16 (iv T st (q j) (q (j + 1))) (fun c => qF w c * ((mT w g (iv T st (q j) (q (j + 1))) - f c) * (mT w g (iv T st (q j) (q (j + 1))) - f c))) := by
        rw [← sT_add]
        exact sT_congr fun c hc hh => by rw [eH c hc hh]; rfl
      rw [sT_parts _ hparts, eq, Rat.natCast_add, esum]
      have es : sQ (j + 1) (fun j => 2 * ((pS w g T st q j : Nat) : Rat) * v j - ((pW w T st q j : Nat) : Rat) * (v j * v j)) = sQ j (fun j => 2 * ((pS w g T st q j : Nat) : Rat) * v j - ((pW w T st q j : Nat) : Rat) * (v j * v j)) + (2 * ((pS w g T st q j : Nat) : Rat) * v j - ((pW w T st q j : Nat) : Rat) * (v j * v j)) := rfl
      rw [es]
      have low1 : ((qT w g (iv T st (q j) (q (j + 1))) : Nat) : Rat) - (2 * ((pS w g T st q j : Nat) : Rat) * v j - ((pW w T st q j : Nat) : Rat) * (v j * v j)) ≤ _ := low.1
      refine ⟨by grind, ?_⟩
      rintro ⟨j', hjj, e, he, hin, hlt⟩
      rcases Nat.lt_or_ge j' j with z | z
      · have := i2 ⟨j', z, e, he, hin, hlt⟩
        grind
      · have : j' = j := by omega
        subst this
        have low2 : ((qT w g (iv T st (q j') (q (j' + 1))) : Nat) : Rat) - (2 * ((pS w g T st q j' : Nat) : Rat) * v j' - ((pW w T st q j' : Nat) : Rat) * (v j' * v j')) < _ := low.2 ⟨e, he, hin, hw e he (iv_iff.mp hin).1, hlt⟩
        grind
  obtain ⟨m1, m2⟩ := main p (Nat.le_refl _)
  have eq : qT w g T = qT w g (iv T st 0 (q p)) := sN_congr 16 fun c hc => by rw [eT c hc]
  rw [e1, eq]
  refine ⟨by grind, fun hh => ?_⟩
  have := m2 hh
  grind
/-- numbers for the pools, rising: cuts where they change; they take off no more than those cuts -/
def OpenC (q : Nat → Nat) (G : Nat → Nat → Rat) (k i : Nat) (γ : Rat) (β : Nat) : Prop := (k = 0 ∧ i = 0 ∧ γ = 0 ∧ β = 0) ∨ ∃ k' β', k = k' + 1 ∧ k ≤ i ∧ Ct q G k' i γ β' ∧ β = β' + 2 ^ q i
theorem open_close {G : Nat → Nat → Rat} {k i j : Nat} {γ : Rat} {β : Nat} (h : OpenC q G k i γ β) (hij : i < j) : Ct q G k j (γ + G i j) β := by
  rcases h with ⟨rfl, rfl, rfl, rfl⟩ | ⟨k', β', rfl, h1, h2, rfl⟩
  · exact ⟨hij, by grind, rfl⟩
  · exact ⟨i, γ, β', h1, hij, h2, rfl, rfl⟩
theorem mod_bit {A x y b : Nat} (h1 : x < b) (h2 : b ≤ y) (hb : A.testBit b = true) : A % 2 ^ (x + 1) + 2 ^ b ≤ A % 2 ^ (y + 1) := by
  have hx : A % 2 ^ (x + 1) < 2 ^ b := Nat.lt_of_lt_of_le (Nat.mod_lt _ (Nat.two_pow_pos _)) (Nat.pow_le_pow_right (by decide) h1)
  refine sub_le fun k hk => ?_
  rw [tb_top hx, Bool.or_eq_true, decide_eq_true_eq, Nat.testBit_mod_two_pow, Bool.and_eq_true, decide_eq_true_eq] at hk
  rw [Nat.testBit_mod_two_pow, Bool.and_eq_true, decide_eq_true_eq]
  rcases hk with hk | hk
  · exact ⟨by omega, hk.2⟩
  · subst hk; exact ⟨by omega, hb⟩
theorem cN_bit {A x y b : Nat} (h1 : x < b) (h2 : b ≤ y) (hb : A.testBit b = true) : cN (x + 1) A.testBit + 1 ≤ cN (y + 1) A.testBit := by
  have m : ∀ a c, a ≤ c → cN a A.testBit ≤ cN c A.testBit := fun a c h => by
    obtain ⟨k, rfl⟩ := Nat.exists_eq_add_of_le h
    rw [cN_split]; omega
  have e1 := m (x + 1) b (by omega)
  have e2 := m (b + 1) (y + 1) (by omega)
  have e3 : cN (b + 1) A.testBit = cN b A.testBit + (if A.testBit b = true then 1 else 0) := rfl
  rw [hb, if_pos rfl] at e3
  omega
theorem cut_of {W S sc : Nat → Nat} {v : Nat → Rat} {A : Nat} (hR : Rise p W S) (hv : ∀ j, j + 1 < p → v j ≤ v (j + 1)) (hsc : ∀ j, j + 1 < p → sc j ≤ sc (j + 1)) (opt : Prop) (hb : ∀ j, j + 1 < p → v j < v (j + 1) → ∃ b, sc j < b ∧ b ≤ sc (j + 1) ∧ A.testBit b = true ∧ (opt → q (j + 1) ≤ b)) :
    ∀ j, j < p → ∃ k i γ β, OpenC q (gq W S) k i γ β ∧ i ≤ j ∧ (∀ t, i ≤ t → t ≤ j → v t = v j) ∧ sQ i (fun j => 2 * ((S j : Nat) : Rat) * v j - ((W j : Nat) : Rat) * (v j * v j)) ≤ γ ∧ k ≤ cN (sc j + 1) A.testBit ∧ (opt → β ≤ A % 2 ^ (sc j + 1)) := by
  intro j
  induction j with
  | zero => exact fun _ => ⟨0, 0, 0, 0, Or.inl ⟨rfl, rfl, rfl, rfl⟩, Nat.le_refl _, fun t _ ht => by rw [show t = 0 by omega], Rat.le_refl, Nat.zero_le _, fun _ => Nat.zero_le _⟩
  | succ j ih =>
    intro hj
    obtain ⟨k, i, γ, β, h1, h2, h3, h4, h5, h6⟩ := ih (by omega)
    have hle := hv j hj
    have hs := hsc j hj
    rcases Classical.em (v j = v (j + 1)) with e | e
    · refine ⟨k, i, γ, β, h1, by omega, fun t a b => ?_, h4, Nat.le_trans h5 ?_, fun o => Nat.le_trans (h6 o) ?_⟩
      · rcases Nat.lt_or_ge t (j + 1) with z | z
        · rw [h3 t a (by omega), e]
        · rw [show t = j + 1 by omega]
      · obtain ⟨d, hd⟩ := Nat.exists_eq_add_of_le (show sc j + 1 ≤ sc (j + 1) + 1 by omega)
        have := cN_split A.testBit (sc j + 1) d
        rw [hd]; omega
      · refine sub_le fun x hx => ?_
        rw [Nat.testBit_mod_two_pow, Bool.and_eq_true, decide_eq_true_eq] at hx ⊢
        exact ⟨by omega, hx.2⟩
    · have hlt : v j < v (j + 1) := by grind
      obtain ⟨b, b1, b2, b3, b4⟩ := hb j hj hlt
      have hc := open_close (j := j + 1) h1 (by omega)
      refine ⟨k + 1, j + 1, _, β + 2 ^ q (j + 1), Or.inr ⟨k, β, rfl, ?_, hc, rfl⟩, Nat.le_refl _, fun t a b => by rw [show t = j + 1 by omega], ?_, ?_, fun o => ?_⟩
      · rcases h1 with ⟨rfl, _⟩ | ⟨k', _, rfl, z, _⟩ <;> omega
      · -- the closed group
        have hW := rise_W hR (show i < j + 1 by omega) (by omega)
        have grp : ∀ m, i + m ≤ j + 1 → sQ (i + m) (fun j => 2 * ((S j : Nat) : Rat) * v j - ((W j : Nat) : Rat) * (v j * v j)) = sQ i (fun j => 2 * ((S j : Nat) : Rat) * v j - ((W j : Nat) : Rat) * (v j * v j)) + (2 * ((sN (i + m) S - sN i S : Nat) : Rat) * v j - ((sN (i + m) W - sN i W : Nat) : Rat) * (v j * v j)) := by
          intro m
          induction m with
          | zero =>
            intro _
            rw [Nat.add_zero, Nat.sub_self, Nat.sub_self]
            have : ((0 : Nat) : Rat) = 0 := rfl
            rw [this]; grind
          | succ m ihm =>
            intro hm
            have e1 : sN (i + (m + 1)) S - sN i S = (sN (i + m) S - sN i S) + S (i + m) := by
              have : sN (i + (m + 1)) S = sN (i + m) S + S (i + m) := rfl
              have := sN_mono (f := S) (show i ≤ i + m by omega)
              omega
            have e2 : sN (i + (m + 1)) W - sN i W = (sN (i + m) W - sN i W) + W (i + m) := by
              have : sN (i + (m + 1)) W = sN (i + m) W + W (i + m) := rfl
              have := sN_mono (f := W) (show i ≤ i + m by omega)
              omega
            rw [e1, e2, Rat.natCast_add, Rat.natCast_add]
            show sQ (i + m) _ + (2 * ((S (i + m) : Nat) : Rat) * v (i + m) - ((W (i + m) : Nat) : Rat) * (v (i + m) * v (i + m))) = _
            rw [ihm (by omega), h3 (i + m) (by omega) (by omega)]
            grind
        have e := grp (j + 1 - i) (by omega)
        rw [show i + (j + 1 - i) = j + 1 by omega] at e
        rw [e]
        have := gn_max (S := sN (j + 1) S - sN i S) hW (v j)
        have this : _ ≤ gq W S i (j + 1) := this
        grind
      · exact Nat.le_trans (Nat.succ_le_succ h5) (cN_bit b1 b2 b3)
      · have h7 := h6 o
        have h8 : 2 ^ q (j + 1) ≤ 2 ^ b := Nat.pow_le_pow_right (by decide) (b4 o)
        have := mod_bit b1 b2 b3
        omega
end ropt
