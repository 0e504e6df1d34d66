/-! RUNS, the mathematics: the class's cuts are the best runs of all -/
section ropt2
variable {w g st : Nat → Nat} {T : Nat → Bool} {p : Nat} {q : Nat → Nat}
theorem grp_sum {W S : Nat → Nat} {v : Nat → Rat} {x : Rat} {i : Nat} : ∀ m, (∀ t, i ≤ t → t < i + m → v t = x) → sQ (i + m) (fun j => 2 * ((S j : Nat) : Rat) * v j - ((W j : Nat) : Rat) * (v j * v j)) = sQ i (fun j => 2 * ((S j : Nat) : Rat) * v j - ((W j : Nat) : Rat) * (v j * v j)) + (2 * ((sN (i + m) S - sN i S : Nat) : Rat) * x - ((sN (i + m) W - sN i W : Nat) : Rat) * (x * x))
  | 0, _ => by
    rw [Nat.add_zero, Nat.sub_self, Nat.sub_self]
    have : ((0 : Nat) : Rat) = 0 := rfl
    rw [this]; grind
  | m + 1, h => by
    have e1 : sN (i + (m + 1)) S - sN i S = (sN (i + m) S - sN i S) + S (i + m) := by
      have : sN (i + (m + 1)) S = sN (i + m) S + S (i + m) := rfl
      have := sN_mono (f := S) (show i ≤ i + m by omega)
      omega
    have e2 : sN (i + (m + 1)) W - sN i W = (sN (i + m) W - sN i W) + W (i + m) := by
      have : sN (i + (m + 1)) W = sN (i + m) W + W (i + m) := rfl
      have := sN_mono (f := W) (show i ≤ i + m by omega)
      omega
    rw [e1, e2, Rat.natCast_add, Rat.natCast_add]
    show sQ (i + m) _ + (2 * ((S (i + m) : Nat) : Rat) * v (i + m) - ((W (i + m) : Nat) : Rat) * (v (i + m) * v (i + m))) = _
    rw [grp_sum m (fun t a b => h t a (by omega)), h (i + m) (by omega) (by omega)]
    grind
theorem grp_le {W S : Nat → Nat} {v : Nat → Rat} {i j : Nat} {γ : Rat} (hR : Rise p W S) (hij : i ≤ j) (hj : j < p) (hc : ∀ t, i ≤ t → t ≤ j → v t = v j) (h : sQ i (fun j => 2 * ((S j : Nat) : Rat) * v j - ((W j : Nat) : Rat) * (v j * v j)) ≤ γ) : sQ (j + 1) (fun j => 2 * ((S j : Nat) : Rat) * v j - ((W j : Nat) : Rat) * (v j * v j)) ≤ γ + gq W S i (j + 1) := by
  have e := grp_sum (W := W) (S := S) (v := v) (x := v j) (i := i) (j + 1 - i) (fun t a b => hc t a (by omega))
  rw [show i + (j + 1 - i) = j + 1 by omega] at e
  rw [e]
  have := gn_max (S := sN (j + 1) S - sN i S) (rise_W hR (show i < j + 1 by omega) (by omega)) (v j)
  have this : _ ≤ gq W S i (j + 1) := this
  grind
/-- a nearest number by its least cost alone -/
theorem VI_min {ov : Nat → Nat → Bool} {f : Nat → Rat} {wq gg : Nat → Rat} (hw : ∀ c, c < 16 → T c = true → 0 ≤ wq c) (hi : isoO 16 ov T f) (hm : ∀ h, isoO 16 ov T h → sT 16 T (fun c => wq c * ((gg c - f c) * (gg c - f c))) ≤ sT 16 T (fun c => wq c * ((gg c - h c) * (gg c - h c)))) : VI 16 ov T wq gg f := by
  refine ⟨hi, fun h hh => ?_⟩
  rcases Classical.em (sT 16 T (fun c => wq c * (gg c - f c) * (h c - f c)) ≤ 0) with z | z
  · exact z
  · exfalso
    obtain ⟨X, hX⟩ : ∃ X, X = sT 16 T (fun c => wq c * (gg c - f c) * (h c - f c)) := ⟨_, rfl⟩
    obtain ⟨Y, hY⟩ : ∃ Y, Y = sT 16 T (fun c => wq c * ((h c - f c) * (h c - f c))) := ⟨_, rfl⟩
    rw [← hX] at z
    have hY0 : 0 ≤ Y := by rw [hY]; exact sT_nonneg fun c hc hT => Rat.mul_nonneg (hw c hc hT) (sq_nn _)
    have hXp : 0 < X := by grind
    obtain ⟨t, ht⟩ : ∃ t : Rat, t * (X + Y) = X := ⟨X / (X + Y), Rat.div_mul_cancel (by grind)⟩
    have ht0 : 0 ≤ t := by
      refine Rat.le_of_mul_le_mul_right (c := X + Y) ?_ (by grind)
      rw [ht]; grind
    have ht1 : t ≤ 1 := by
      refine Rat.le_of_mul_le_mul_right (c := X + Y) ?_ (by grind)
      rw [ht]; grind
    have iso : isoO 16 ov T (fun c => f c + t * (h c - f c)) := fun a b ha hb hTa hTb ho => by
      have a1 := hi a b ha hb hTa hTb ho
      have a2 := hh a b ha hb hTa hTb ho
      have b1 := Rat.mul_nonneg (a := 1 - t) (b := f a - f b) (by grind) (by grind)
      have b2 := Rat.mul_nonneg (a := t) (b := h a - h b) ht0 (by grind)
      show f b + t * (h b - f b) ≤ f a + t * (h a - f a)
      grind
    have hmin := hm _ iso
    have e : sT 16 T (fun c => wq c * ((gg c - (f c + t * (h c - f c))) * (gg c - (f c + t * (h c - f c))))) = sT 16 T (fun c => wq c * ((gg c - f c) * (gg c - f c))) - 2 * t * X + t * t * Y := by
      rw [hX, hY, ← sT_mul, ← sT_mul, ← sT_sub, ← sT_add]
      exact sT_congr fun c _ _ => by grind
    rw [e] at hmin
    have k1 : 2 * t * X ≤ t * t * Y := by grind
    have htp : 0 < t := by
      rcases Classical.em (t = 0) with q | q
      · rw [q, Rat.zero_mul] at ht; rw [← ht] at hXp; exact absurd hXp Rat.lt_irrefl
      · grind
    have k2 : 2 * X ≤ t * Y := by
      refine Rat.le_of_mul_le_mul_right (c := t) ?_ htp
      grind
    have k3 : t * Y ≤ X := by
      have := Rat.mul_nonneg ht0 (Rat.le_of_lt hXp)
      grind
    grind
/-- what rising numbers of months that change at the bits of A alone cost at the least -/
theorem low_all {to most k A : Nat} {γ : Rat} {β : Nat} {f : Nat → Rat} (hP : Pav w g T st q p) (hr : ∀ j, j + 1 < p → pS w g T st q j * pW w T st q (j + 1) < pS w g T st q (j + 1) * pW w T st q j) (hT : ∀ c, c < 16 → T c = true → st c < q p) (hw : ∀ c, c < 16 → T c = true → 0 < w c)
    (hto : ∀ c, c < 16 → T c = true → st c ≤ to) (hto11 : to ≤ 11) (hq1 : ∀ j, j < p → ∃ e, e < 16 ∧ iv T st (q j) (q (j + 1)) e = true ∧ st e + 1 = q (j + 1)) (hp : 0 < p) (hk : k + 1 = min most p) (hB : Btq q (gq (pW w T st q) (pS w g T st q)) k p γ β) (hA : pc 16 A + 1 ≤ most)
    (hf : isoO 16 (ovk fun c => kA A (st c)) T f) : ((qT w g T : Nat) : Rat) - γ ≤ sT 16 T (fun c => qF w c * ((qF g c - f c) * (qF g c - f c))) ∧ (sT 16 T (fun c => qF w c * ((qF g c - f c) * (qF g c - f c))) ≤ ((qT w g T : Nat) : Rat) - γ → k ≤ pc 16 A ∧ β ≤ A) := by
  have hinc : ∀ j, j < p → q j < q (j + 1) := fun j hj => (hP.2 j hj).1
  have hqq : ∀ i j, i < j → j ≤ p → q i < q j := fun i j hij hj => Nat.lt_of_lt_of_le (hinc i (by omega)) (r_mono hinc hij hj)
  have hR := rise_of hP hr
  have hfs : isoO 16 (ovk st) T f := fun a b ha hb hTa hTb ho => hf a b ha hb hTa hTb (decide_eq_true (kA_mono A (of_decide_eq_true ho)))
  have hfe : ∀ a b, a < 16 → b < 16 → T a = true → T b = true → kA A (st a) = kA A (st b) → f a = f b := fun a b ha hb hTa hTb he => Rat.le_antisymm (hf b a hb ha hTb hTa (decide_eq_true (show kA A (st a) ≤ kA A (st b) by omega))) (hf a b ha hb hTa hTb (decide_eq_true (show kA A (st b) ≤ kA A (st a) by omega)))
  have hch : ∀ j, ∃ c, j < p → (c < 16 ∧ iv T st (q j) (q (j + 1)) c = true ∧ ∀ e, e < 16 → iv T st (q j) (q (j + 1)) e = true → (pM w g T st q j - f c) * (pM w g T st q j - f c) ≤ (pM w g T st q j - f e) * (pM w g T st q j - f e) ∧ ((pM w g T st q j - f e) * (pM w g T st q j - f e) ≤ (pM w g T st q j - f c) * (pM w g T st q j - f c) → f e ≤ f c)) := fun j => by
    by_cases z : j < p
    · obtain ⟨e, h1, h2, -⟩ := hq1 j z
      obtain ⟨c, hc⟩ := near_one (iv T st (q j) (q (j + 1))) f (pM w g T st q j) ⟨e, h1, h2⟩
      exact ⟨c, fun _ => hc⟩
    · exact ⟨0, fun h => absurd h z⟩
  obtain ⟨cj, hcj⟩ : ∃ cj : Nat → Nat, ∀ j, j < p → (cj j < 16 ∧ iv T st (q j) (q (j + 1)) (cj j) = true ∧ ∀ e, e < 16 → iv T st (q j) (q (j + 1)) e = true → (pM w g T st q j - f (cj j)) * (pM w g T st q j - f (cj j)) ≤ (pM w g T st q j - f e) * (pM w g T st q j - f e) ∧ ((pM w g T st q j - f e) * (pM w g T st q j - f e) ≤ (pM w g T st q j - f (cj j)) * (pM w g T st q j - f (cj j)) → f e ≤ f (cj j))) := ⟨fun j => Classical.choose (hch j), fun j => Classical.choose_spec (hch j)⟩
  obtain ⟨lb1, lb2⟩ := low_bound (v := fun j => f (cj j)) hP hr hT hw hfs (fun j hj e he hin => ((hcj j hj).2.2 e he hin).1)
  have inT : ∀ j, j < p → T (cj j) = true ∧ q j ≤ st (cj j) ∧ st (cj j) < q (j + 1) := fun j hj => iv_iff.mp (hcj j hj).2.1
  have hsc : ∀ j, j + 1 < p → st (cj j) ≤ st (cj (j + 1)) := fun j hj => by
    have := (inT j (by omega)).2.2; have := (inT (j + 1) hj).2.1; omega
  have hv : ∀ j, j + 1 < p → f (cj j) ≤ f (cj (j + 1)) := fun j hj => hfs (cj (j + 1)) (cj j) (hcj (j + 1) hj).1 (hcj j (by omega)).1 (inT (j + 1) hj).1 (inT j (by omega)).1 (decide_eq_true (hsc j hj))
  have bit : ∀ a c, a < 16 → c < 16 → T a = true → T c = true → st a ≤ st c → f a < f c → ∃ b, st a < b ∧ b ≤ st c ∧ A.testBit b = true := fun a c ha hc hTa hTc hle hlt => by
    refine Classical.byContradiction fun z => ?_
    have := hfe a c ha hc hTa hTc (kA_eq hle fun x h1 h2 => by
      cases y : A.testBit x
      · rfl
      · exact absurd ⟨x, h1, h2, y⟩ z)
    rw [this] at hlt; exact absurd hlt Rat.lt_irrefl
  have fin : ∀ opt : Prop, (∀ j, j + 1 < p → f (cj j) < f (cj (j + 1)) → ∃ b, st (cj j) < b ∧ b ≤ st (cj (j + 1)) ∧ A.testBit b = true ∧ (opt → q (j + 1) ≤ b)) → ∃ k' γ' β', Ct q (gq (pW w T st q) (pS w g T st q)) k' p γ' β' ∧ sQ p (fun j => 2 * ((pS w g T st q j : Nat) : Rat) * f (cj j) - ((pW w T st q j : Nat) : Rat) * (f (cj j) * f (cj j))) ≤ γ' ∧ k' ≤ pc 16 A ∧ k' ≤ k ∧ (opt → β' ≤ A) := fun opt hb => by
    obtain ⟨k', i, γ', β', h1, h2, h3, h4, h5, h6⟩ := cut_of (q := q) (sc := fun j => st (cj j)) (v := fun j => f (cj j)) hR hv hsc opt hb (p - 1) (by omega)
    have hc := open_close (j := p) h1 (by omega)
    have hs := grp_le (v := fun j => f (cj j)) hR h2 (by omega) h3 h4
    rw [show p - 1 + 1 = p by omega] at hs
    have h7 := (ct_bits hqq k' p _ β' (Nat.le_refl _) hc).1
    have h8 : cN (st (cj (p - 1)) + 1) A.testBit ≤ pc 16 A := by
      have := hto _ (hcj (p - 1) (by omega)).1 (inT (p - 1) (by omega)).1
      obtain ⟨d, hd⟩ := Nat.exists_eq_add_of_le (show st (cj (p - 1)) + 1 ≤ 16 by omega)
      have := cN_split A.testBit (st (cj (p - 1)) + 1) d
      show _ ≤ cN 16 A.testBit
      rw [hd]; omega
    have h5 : k' ≤ cN (st (cj (p - 1)) + 1) A.testBit := h5
    refine ⟨k', _, β', hc, hs, by omega, by omega, fun o => Nat.le_trans (h6 o) (Nat.mod_le _ _)⟩
  have many : ∀ k' γ' β', Ct q (gq (pW w T st q) (pS w g T st q)) k' p γ' β' → k' ≤ k → γ' ≤ γ ∧ (k' < k → γ' < γ) := fun k' γ' β' hc hkk => by
    obtain ⟨γ2, β2, m1, m2, m3⟩ := ct_many (q := q) (G := gq (pW w T st q) (pS w g T st q)) (p := p) (k := k') (fun a c b h1 h2 h3 => gq_split hR h1 h2 h3) hc (k - k') (by omega)
    rw [show k' + (k - k') = k by omega] at m1
    have := (hB.2 γ2 β2 m1).1
    exact ⟨by grind, fun z => by have := m3 (by omega); grind⟩
  obtain ⟨k0, γ0, β0, f1, f2, f3, f4, -⟩ := fin False (fun j hj hlt => by
    obtain ⟨b, b1, b2, b3⟩ := bit _ _ (hcj j (by omega)).1 (hcj (j + 1) hj).1 (inT j (by omega)).1 (inT (j + 1) hj).1 (hsc j hj) hlt
    exact ⟨b, b1, b2, b3, fun h => h.elim⟩)
  have g0 := (many k0 γ0 β0 f1 f4).1
  refine ⟨by grind, fun hle => ?_⟩
  obtain ⟨k1, γ1, β1, e1, e2, e3, e4, e5⟩ := fin True (fun j hj hlt => by
    obtain ⟨e, a1, a2, a3⟩ := hq1 j (by omega)
    have hje := (hcj j (by omega)).2.2 e a1 a2
    have ine := iv_iff.mp a2
    have hst : st e ≤ st (cj (j + 1)) := by have := (inT (j + 1) hj).2.1; omega
    -- the last of a pool isn't raised with the next one
    have hlt2 : f e < f (cj (j + 1)) := by
      refine Classical.byContradiction fun z => ?_
      have h5 : f (cj (j + 1)) ≤ f e := by grind
      have h6 : ¬ (pM w g T st q j - f e) * (pM w g T st q j - f e) ≤ (pM w g T st q j - f (cj j)) * (pM w g T st q j - f (cj j)) := fun y => by
        have := hje.2 y; grind
      have := lb2 ⟨j, by omega, e, a1, a2, by grind⟩
      grind
    obtain ⟨b, b1, b2, b3⟩ := bit e _ a1 (hcj (j + 1) hj).1 ine.1 (inT (j + 1) hj).1 hst hlt2
    exact ⟨b, by have := (inT j (by omega)).2.2; omega, b2, b3, fun _ => by omega⟩)
  obtain ⟨m1, m2⟩ := many k1 γ1 β1 e1 e4
  have hk1 : k1 = k := by
    rcases Nat.lt_or_ge k1 k with z | z
    · have := m2 z; grind
    · omega
  subst hk1
  have hg : γ1 = γ := by grind
  exact ⟨e3, Nat.le_trans ((hB.2 γ1 β1 e1).2 hg) (e5 trivial)⟩
/-- numbers for the steps out of cuts -/
theorem ct_fun {W S : Nat → Nat} (hR : Rise p W S) (hq : ∀ i j, i < j → j ≤ p → q i < q j) : ∀ k j γ β, j ≤ p → Ct q (gq W S) k j γ β → ∃ (h : Nat → Rat) (i0 : Nat), i0 < j ∧ (∀ s, h s ≤ h (s + 1)) ∧ (∀ s, β.testBit (s + 1) = false → h (s + 1) = h s) ∧ (∀ s, h s ≤ mkRat ((sN j S - sN i0 S : Nat) : Int) (sN j W - sN i0 W)) ∧
    (∀ t, t < j → ∀ s, q t ≤ s → s < q (t + 1) → h s = h (q t)) ∧ sQ j (fun t => 2 * ((S t : Nat) : Rat) * h (q t) - ((W t : Nat) : Rat) * (h (q t) * h (q t))) = γ := by
  have mean : ∀ i j, i < j → j ≤ p → 2 * ((sN j S - sN i S : Nat) : Rat) * mkRat ((sN j S - sN i S : Nat) : Int) (sN j W - sN i W) - ((sN j W - sN i W : Nat) : Rat) * (mkRat ((sN j S - sN i S : Nat) : Int) (sN j W - sN i W) * mkRat ((sN j S - sN i S : Nat) : Int) (sN j W - sN i W)) = gq W S i j := fun i j hij hj => by
    have hW := rise_W hR hij hj
    have hWp := Rat.natCast_pos.mpr hW
    have e1 := gn_mul (S := sN j S - sN i S) hW
    have e2 : mkRat ((sN j S - sN i S : Nat) : Int) (sN j W - sN i W) * ((sN j W - sN i W : Nat) : Rat) = ((sN j S - sN i S : Nat) : Rat) := by
      rw [Rat.mkRat_eq_div]
      have h2 : ((sN j W - sN i W : Nat) : Rat) ≠ 0 := by intro z; rw [z] at hWp; exact absurd hWp Rat.lt_irrefl
      exact Rat.div_mul_cancel h2
    have e1 : gq W S i j * ((sN j W - sN i W : Nat) : Rat) = ((sN j S - sN i S : Nat) : Rat) * ((sN j S - sN i S : Nat) : Rat) := e1
    clear hq hR
    generalize mkRat ((sN j S - sN i S : Nat) : Int) (sN j W - sN i W) = M at e2 ⊢
    generalize gq W S i j = G at e1 ⊢
    generalize ((sN j W - sN i W : Nat) : Rat) = a at e1 e2 hWp ⊢
    generalize ((sN j S - sN i S : Nat) : Rat) = s at e1 e2 ⊢
    have key : (2 * s * M - a * (M * M)) * a = G * a := by grind
    exact Rat.le_antisymm (Rat.le_of_mul_le_mul_right (by rw [key]; exact Rat.le_refl) hWp) (Rat.le_of_mul_le_mul_right (by rw [key]; exact Rat.le_refl) hWp)
  intro k
  induction k with
  | zero =>
    rintro j γ β hj ⟨h0, rfl, rfl⟩
    refine ⟨fun _ => mkRat ((sN j S - sN 0 S : Nat) : Int) (sN j W - sN 0 W), 0, h0, fun _ => Rat.le_refl, fun _ _ => rfl, fun _ => Rat.le_refl, fun _ _ _ _ _ => rfl, ?_⟩
    have e := grp_sum (W := W) (S := S) (v := fun _ => mkRat ((sN j S - sN 0 S : Nat) : Int) (sN j W - sN 0 W)) (x := mkRat ((sN j S - sN 0 S : Nat) : Int) (sN j W - sN 0 W)) (i := 0) j (fun _ _ _ => rfl)
    rw [Nat.zero_add] at e
    rw [e, mean 0 j h0 hj]
    show 0 + gq W S 0 j = gq W S 0 j
    grind
  | succ k ih =>
    rintro j γ β hj ⟨i, γ', β', h1, h2, h3, rfl, rfl⟩
    obtain ⟨h, i0, g1, g2, g3, g4, g5, g6⟩ := ih i γ' β' (by omega) h3
    have hb := (ct_bits hq k i γ' β' (by omega) h3).2
    obtain ⟨mm, hmm⟩ : ∃ mm, mm = mkRat ((sN j S - sN i S : Nat) : Int) (sN j W - sN i W) := ⟨_, rfl⟩
    have hlt : mkRat ((sN i S - sN i0 S : Nat) : Int) (sN i W - sN i0 W) ≤ mm := by
      have W1 := rise_W hR g1 (by omega)
      have W2 := rise_W hR h2 hj
      have p1 := Rat.natCast_pos.mpr W1
      have p2 := Rat.natCast_pos.mpr W2
      have e1 : mkRat ((sN i S - sN i0 S : Nat) : Int) (sN i W - sN i0 W) * ((sN i W - sN i0 W : Nat) : Rat) = ((sN i S - sN i0 S : Nat) : Rat) := by
        rw [Rat.mkRat_eq_div]
        exact Rat.div_mul_cancel (by intro z; have z : ((sN i W - sN i0 W : Nat) : Rat) = 0 := z; rw [z] at p1; exact absurd p1 Rat.lt_irrefl)
      have e2 : mm * ((sN j W - sN i W : Nat) : Rat) = ((sN j S - sN i S : Nat) : Rat) := by
        rw [hmm, Rat.mkRat_eq_div]
        exact Rat.div_mul_cancel (by intro z; have z : ((sN j W - sN i W : Nat) : Rat) = 0 := z; rw [z] at p2; exact absurd p2 Rat.lt_irrefl)
      have hx : (((sN i S - sN i0 S) * (sN j W - sN i W) : Nat) : Rat) ≤ (((sN j S - sN i S) * (sN i W - sN i0 W) : Nat) : Rat) := Rat.natCast_le_natCast.mpr (Nat.le_of_lt (rise_mid hR g1 h2 hj))
      rw [Rat.natCast_mul, Rat.natCast_mul, ← e1, ← e2] at hx
      refine Rat.le_of_mul_le_mul_right (c := ((sN i W - sN i0 W : Nat) : Rat) * ((sN j W - sN i W : Nat) : Rat)) ?_ (Rat.mul_pos p1 p2)
      grind
    have hle : ∀ s, h s ≤ mm := fun s => by have := g4 s; grind
    obtain ⟨h', hh'⟩ : ∃ h' : Nat → Rat, h' = fun s => if q i ≤ s then mm else h s := ⟨_, rfl⟩
    have ea : ∀ s, q i ≤ s → h' s = mm := fun s hs => by rw [hh']; exact if_pos hs
    have eb : ∀ s, s < q i → h' s = h s := fun s hs => by rw [hh']; exact if_neg (by omega)
    refine ⟨h', i, h2, fun s => ?_, fun s hs => ?_, fun s => ?_, fun t ht s hs1 hs2 => ?_, ?_⟩
    · rcases Nat.lt_or_ge s (q i) with z | z
      · rw [eb s z]
        rcases Nat.lt_or_ge (s + 1) (q i) with y | y
        · rw [eb _ y]; exact g2 s
        · rw [ea _ y]; exact hle s
      · rw [ea s z, ea _ (by omega)]; exact Rat.le_refl
    · rw [tb_top hb, Bool.or_eq_false_iff] at hs
      have := of_decide_eq_false hs.2
      rcases Nat.lt_or_ge s (q i) with z | z
      · rw [eb s z, eb (s + 1) (by omega)]; exact g3 s hs.1
      · rw [ea s z, ea _ (by omega)]
    · rw [← hmm]
      rcases Nat.lt_or_ge s (q i) with z | z
      · rw [eb s z]; exact hle s
      · rw [ea s z]; exact Rat.le_refl
    · rcases Nat.lt_or_ge t i with z | z
      · have h5 : q (t + 1) ≤ q i := by
          rcases Nat.lt_or_ge (t + 1) i with y | y
          · exact Nat.le_of_lt (hq _ _ y (by omega))
          · rw [show t + 1 = i by omega]; exact Nat.le_refl _
        rw [eb s (by omega), eb (q t) (hq t i z (by omega))]
        exact g5 t z s hs1 hs2
      · have h5 : q i ≤ q t := by
          rcases Nat.lt_or_ge i t with y | y
          · exact Nat.le_of_lt (hq _ _ y (by omega))
          · rw [show t = i by omega]; exact Nat.le_refl _
        rw [ea s (by omega), ea (q t) h5]
    · have e := grp_sum (W := W) (S := S) (v := fun t => h' (q t)) (x := mm) (i := i) (j - i) (fun t a b => by
        have h5 : q i ≤ q t := by
          rcases Nat.lt_or_ge i t with y | y
          · exact Nat.le_of_lt (hq _ _ y (by omega))
          · rw [show t = i by omega]; exact Nat.le_refl _
        exact ea _ h5)
      rw [show i + (j - i) = j by omega] at e
      rw [e, hmm, mean i j h2 hj]
      have e2 : sQ i (fun t => 2 * ((S t : Nat) : Rat) * h' (q t) - ((W t : Nat) : Rat) * (h' (q t) * h' (q t))) = γ' := by
        rw [← g6]
        exact sQ_congr i fun t ht => by rw [eb (q t) (hq t i ht (by omega))]
      rw [e2]
theorem ct_pc {G : Nat → Nat → Rat} (hq : ∀ i j, i < j → j ≤ p → q i < q j) (h16 : q p ≤ 16) (h0 : q 0 = 0) : ∀ k j γ β, j ≤ p → Ct q G k j γ β → pc 16 β = k ∧ β.testBit 0 = false
  | 0, j, γ, β, _, ⟨_, _, hβ⟩ => by rw [hβ]; exact ⟨pc_0, tb0 0⟩
  | k + 1, j, γ, β, hj, ⟨i, γ', β', h1, h2, h3, _, hβ⟩ => by
    obtain ⟨e1, e2⟩ := ct_pc hq h16 h0 k i γ' β' (by omega) h3
    have hb := (ct_bits hq k i γ' β' (by omega) h3).2
    have := hq i p (by omega) (Nat.le_refl _)
    have := hq 0 i (by omega) (by omega)
    rw [hβ, pc_top hb (by omega), tb_top hb, e1, e2, decide_eq_false (by omega)]
    exact ⟨rfl, rfl⟩
theorem class_opt {to most k : Nat} {γ : Rat} {β : Nat} (hP : Pav w g T st q p) (hr : ∀ j, j + 1 < p → pS w g T st q j * pW w T st q (j + 1) < pS w g T st q (j + 1) * pW w T st q j) (hT : ∀ c, c < 16 → T c = true → st c < q p) (hw : ∀ c, c < 16 → T c = true → 0 < w c)
    (hto : ∀ c, c < 16 → T c = true → st c ≤ to) (hto11 : to ≤ 11) (hq1 : ∀ j, j < p → ∃ e, e < 16 ∧ iv T st (q j) (q (j + 1)) e = true ∧ st e + 1 = q (j + 1)) (hp : 0 < p) (hk : k + 1 = min most p) (hB : Btq q (gq (pW w T st q) (pS w g T st q)) k p γ β) :
    RunOpt w g T st to most (((qT w g T : Nat) : Rat) - γ) β := by
  have hinc : ∀ j, j < p → q j < q (j + 1) := fun j hj => (hP.2 j hj).1
  have hqq : ∀ i j, i < j → j ≤ p → q i < q j := fun i j hij hj => Nat.lt_of_lt_of_le (hinc i (by omega)) (r_mono hinc hij hj)
  have hR := rise_of hP hr
  have hqp : q p ≤ to + 1 := by
    obtain ⟨e, h1, h2, h3⟩ := hq1 (p - 1) (by omega)
    rw [show p - 1 + 1 = p by omega] at h3
    have := hto e h1 (iv_iff.mp h2).1; omega
  obtain ⟨c1, c2⟩ := ct_pc hqq (by omega) hP.1 k p γ β (Nat.le_refl _) hB.1
  have c3 := (ct_bits hqq k p γ β (Nat.le_refl _) hB.1).2
  have low := fun A f hA hf => low_all (A := A) (f := f) hP hr hT hw hto hto11 hq1 hp hk hB hA hf
  refine ⟨⟨Nat.lt_of_lt_of_le c3 (Nat.pow_le_pow_right (by decide) hqp), c2, by omega⟩, ?_, fun A r' h1 h2 h3 ⟨f, hf, hr'⟩ => ?_⟩
  · obtain ⟨h, i0, g1, g2, g3, g4, g5, g6⟩ := ct_fun hR hqq k p γ β (Nat.le_refl _) hB.1
    have hmono : ∀ s t, s ≤ t → h s ≤ h t := fun s t hst => by
      obtain ⟨m, rfl⟩ := Nat.exists_eq_add_of_le hst
      clear hst
      induction m with
      | zero => exact Rat.le_refl
      | succ m ih => have := g2 (s + m); show h s ≤ h (s + m + 1); grind
    have iso : isoO 16 (ovk fun c => kA β (st c)) T (fun c => h (st c)) := fun a b _ _ _ _ ho => by
      have ho : kA β (st b) ≤ kA β (st a) := of_decide_eq_true ho
      show h (st b) ≤ h (st a)
      rw [← kA_const g3 (st b), ← kA_const g3 (st a)]
      exact hmono _ _ ho
    have eT : ∀ c, c < 16 → T c = iv T st 0 (q p) c := fun c hc => bool_eq ⟨fun z => iv_iff.mpr ⟨z, Nat.zero_le _, hT c hc z⟩, fun z => (iv_iff.mp z).1⟩
    -- what it costs
    have cost : ∀ j, j ≤ p → sT 16 (iv T st 0 (q j)) (fun c => qF w c * ((qF g c - h (st c)) * (qF g c - h (st c)))) = ((qT w g (iv T st 0 (q j)) : Nat) : Rat) - sQ j (fun t => 2 * ((pS w g T st q t : Nat) : Rat) * h (q t) - ((pW w T st q t : Nat) : Rat) * (h (q t) * h (q t))) := by
      intro j
      induction j with
      | zero =>
        intro _
        have z1 : sT 16 (iv T st 0 (q 0)) (fun c => qF w c * ((qF g c - h (st c)) * (qF g c - h (st c)))) = 0 := by
          rw [sT, sQ_congr 16 (g := fun _ => 0) (fun c _ => by rw [iv_none (by rw [hP.1]; exact Nat.le_refl _) c]; simp), sQ_zero]
        have z2 : qT w g (iv T st 0 (q 0)) = 0 := by
          show sN 16 _ = 0
          rw [sN_congr 16 (g := fun _ => 0) (fun c _ => by rw [iv_none (by rw [hP.1]; exact Nat.le_refl _) c]; rfl)]; rfl
        rw [z1, z2]
        show 0 = ((0 : Nat) : Rat) - 0
        grind
      | succ j ih =>
        intro hj
        have hj' := hP.2 j (by omega)
        rw [sT_parts _ (fun c _ => iv_parts (Nat.zero_le _) (Nat.le_of_lt hj'.1) c), ih (by omega), qT_iv (Nat.zero_le _) (Nat.le_of_lt hj'.1), Rat.natCast_add]
        show _ = _ - (sQ j (fun t => 2 * ((pS w g T st q t : Nat) : Rat) * h (q t) - ((pW w T st q t : Nat) : Rat) * (h (q t) * h (q t))) + (2 * ((pS w g T st q j : Nat) : Rat) * h (q j) - ((pW w T st q j : Nat) : Rat) * (h (q j) * h (q j))))
        have x1 : sT 16 (iv T st (q j) (q (j + 1))) (fun c => qF w c * ((qF g c - h (st c)) * (qF g c - h (st c)))) = sT 16 (iv T st (q j) (q (j + 1))) (fun c => ((w c * g c * g c : Nat) : Rat)) - 2 * h (q j) * sT 16 (iv T st (q j) (q (j + 1))) (fun c => ((w c * g c : Nat) : Rat)) + h (q j) * h (q j) * sT 16 (iv T st (q j) (q (j + 1))) (fun c => ((w c : Nat) : Rat)) := by
          rw [← sT_mul, ← sT_mul, ← sT_sub, ← sT_add]
          refine sT_congr fun c _ hc => ?_
          rw [g5 j (by omega) (st c) (iv_iff.mp hc).2.1 (iv_iff.mp hc).2.2]
          show ((w c : Nat) : Rat) * ((((g c : Nat) : Rat) - h (q j)) * (((g c : Nat) : Rat) - h (q j))) = ((w c * g c * g c : Nat) : Rat) - 2 * h (q j) * ((w c * g c : Nat) : Rat) + h (q j) * h (q j) * ((w c : Nat) : Rat)
          rw [Rat.natCast_mul, Rat.natCast_mul]; grind
        rw [x1, sT_castN, sT_castN, sT_castN]
        show ((qT w g (iv T st (q j) (q (j + 1))) : Nat) : Rat) - 2 * h (q j) * ((pS w g T st q j : Nat) : Rat) + h (q j) * h (q j) * ((pW w T st q j : Nat) : Rat) + _ = _
        grind
    have hcost : sT 16 T (fun c => qF w c * ((qF g c - h (st c)) * (qF g c - h (st c)))) = ((qT w g T : Nat) : Rat) - γ := by
      have e0 : sT 16 T (fun c => qF w c * ((qF g c - h (st c)) * (qF g c - h (st c)))) = sT 16 (iv T st 0 (q p)) (fun c => qF w c * ((qF g c - h (st c)) * (qF g c - h (st c)))) := sQ_congr 16 fun c hc => by rw [eT c hc]
      have eq : qT w g T = qT w g (iv T st 0 (q p)) := sN_congr 16 fun c hc => by rw [eT c hc]
      rw [e0, cost p (Nat.le_refl _), g6, eq]
    refine ⟨fun c => h (st c), VI_min (fun c _ _ => Rat.natCast_nonneg) iso fun h2 hh2 => ?_, hcost.symm⟩
    rw [hcost]
    exact (low β h2 (by omega) hh2).1
  · have h5 := low A f h3 hf.1
    rw [← hr'] at h5
    refine ⟨h5.1, fun e => ?_⟩
    have h6 := h5.2 (by rw [e]; exact Rat.le_refl)
    omega
end ropt2
