/-! CONTRACTS: the class's runs: pooling -/
theorem leaf_same {w g κ : Nat → Nat} {T : Nat → Bool} {a b x0 : Nat} (h : ∀ c, c < 16 → iv T κ a b c = true → κ c = x0) : Leaf w g T κ a b := by
  intro x h1 h2
  rcases Nat.lt_or_ge x0 x with q | q
  · have : wT w (iv T κ x b) = 0 ∧ gT w g (iv T κ x b) = 0 := wT_0 fun c hc => by
      cases z : iv T κ x b c
      · rfl
      · have := iv_iff.mp z
        have := h c hc (iv_iff.mpr ⟨this.1, by omega, this.2.2⟩)
        omega
    rw [this.1, this.2]; omega
  · have e : ∀ c, c < 16 → iv T κ x b c = iv T κ a b c := fun c hc => bool_eq ⟨fun z => by
      have := iv_iff.mp z; exact iv_iff.mpr ⟨this.1, by omega, this.2.2⟩, fun z => by
      have := iv_iff.mp z; exact iv_iff.mpr ⟨this.1, by have := h c hc z; omega, this.2.2⟩⟩
    have e1 : wT w (iv T κ x b) = wT w (iv T κ a b) := sN_congr 16 fun c hc => by rw [e c hc]
    have e2 : gT w g (iv T κ x b) = gT w g (iv T κ a b) := sN_congr 16 fun c hc => by rw [e c hc]
    rw [e1, e2]; exact Nat.le_refl _
theorem BkC_fr {r lv : Nat} {B : Bk} {σ σ' : Mem} {ls : List Nat} (h : BkC r lv B σ) (hf : Fr ls σ σ') (hl : ∀ x, 12 ≤ x → x ≤ 31 → x ∉ ls) : BkC r lv B σ' := by
  obtain ⟨hr, ⟨a1, a2, a3, a4⟩, ⟨b1, b2, b3, b4, b5, b6⟩, c1, c2, c3⟩ := h
  have e : ∀ k, k ≤ 9 → σ'.1 (r + k) = σ.1 (r + k) ∧ σ'.2.1 (r + k) = σ.2.1 (r + k) := fun k hk => by
    have := hf (r + k) (hl _ (by omega) (by omega)); exact ⟨this.1, this.2.1⟩
  have e0 : σ'.1 r = σ.1 r := (e 0 (by omega)).1
  refine ⟨hr, ⟨by rw [e0]; exact a1, fun m hm => by rw [(e 1 (by omega)).2]; exact a2 m hm, fun k hk => by rw [(e 2 (by omega)).1]; exact a3 k hk, by rw [e0]; exact a4⟩,
    ⟨by rw [e0]; exact b1, fun k hk => by rw [(e 3 (by omega)).1]; exact b2 k hk, fun k hk => by rw [(e 4 (by omega)).1]; exact b3 k hk, fun k hk => by rw [(e 5 (by omega)).1]; exact b4 k hk, fun k hk => by rw [(e 6 (by omega)).1]; exact b5 k hk, fun c m hc hm => by rw [(e 7 (by omega)).1]; exact b6 c m hc hm⟩,
    by rw [e0]; exact c1, fun k hk => by rw [(e 8 (by omega)).1]; exact c2 k hk, fun k hk => by rw [(e 9 (by omega)).1]; exact c3 k hk⟩
def PoC (w g : Nat → Nat) (T : Nat → Bool) (st : Nat → Nat) (p : Nat) (q : Nat → Nat) (σ : Mem) : Prop :=
  σ.1 114 2 = nI p ∧ ∀ j, j < p → σ.1 116 j = nI (pW w T st q j) ∧ σ.1 117 j = nI (pS w g T st q j) ∧ σ.1 118 j = nI (if j = 0 then 0 else 2 ^ q j)
def PoM (w g : Nat → Nat) (T : Nat → Bool) (st : Nat → Nat) (p : Nat) (q : Nat → Nat) (x : Nat) : Prop :=
  Pav w g T st q p ∧ (∀ j, j < p → ∃ e, e < 16 ∧ iv T st (q j) (q (j + 1)) e = true ∧ st e + 1 = q (j + 1)) ∧ (∀ c, T c = true → st c < x → st c < q p) ∧ q p ≤ x ∧ p ≤ x
def PoR (w g : Nat → Nat) (T : Nat → Bool) (st : Nat → Nat) (p : Nat) (q : Nat → Nat) : Prop := ∀ j, j + 1 < p → pS w g T st q j * pW w T st q (j + 1) < pS w g T st q (j + 1) * pW w T st q j
def Bnd (w g : Nat → Nat) (T : Nat → Bool) : Prop := ∀ P : Nat → Bool, (∀ c, P c = true → T c = true) → wT w P ≤ 64 ∧ gT w g P ≤ 15360 ∧ qT w g P ≤ 3686400
section pool
variable {Θ : Th} {d : Nat} {σ : Mem} {Q : Po} {w g st : Nat → Nat} {T : Nat → Bool}
theorem pwb (hb : Bnd w g T) (q : Nat → Nat) (j : Nat) : pW w T st q j ≤ 64 ∧ pS w g T st q j ≤ 15360 := by
  have := hb (iv T st (q j) (q (j + 1))) (fun c h => (iv_iff.mp h).1)
  exact ⟨this.1, this.2.1⟩
theorem c95 {p x : Nat} {q : Nat → Nat} (hb : Bnd w g T) (hC : PoC w g T st p q σ) (hM : PoM w g T st p q x) (hR : PoR w g T st (p - 1) q) (h1 : 1 ≤ p) (h12 : p ≤ 12)
    (K : ∀ σ' p' q', Fr [114, 116, 117] σ σ' → PoC w g T st p' q' σ' → PoM w g T st p' q' x → PoR w g T st p' q' → 1 ≤ p' → q' p' = q p → Q none σ') : Cm Θ d 95 [.ref 114] σ Q := by
  have main : ∀ m i p q s, p ≤ m → i + p ≤ 12 → 1 ≤ p → Fr [114, 116, 117] σ s → PoC w g T st p q s → PoM w g T st p q x → PoR w g T st (p - 1) q → (∀ σ' p' q', Fr [114, 116, 117] σ σ' → PoC w g T st p' q' σ' → PoM w g T st p' q' x → PoR w g T st p' q' → 1 ≤ p' → q' p' = q p → Q none σ') →
      G Θ d 95 2 [some (.ref 114), some (.int (nI i)), none] [] s Q := by
    intro m
    induction m with
    | zero => intro i p q s h2 h3 h4; omega
    | succ m ih =>
      intro i p q s h2 h3 h4 hf hC hM hR K
      refine B95_2 ⟨fun h => absurd h (nI_ge (b := 12) (by omega) (by decide)), fun _ => ?_⟩
      rw [hC.1]
      refine ⟨fun h => ?_, fun h => ?_⟩
      · have h : nI p ≤ nI 1 := h
        rw [nI_leI (by omega) (by omega)] at h
        exact K s p q hf hC hM (fun j hj => by omega) h4 rfl
      · have hp2 : ∃ p2, p = p2 + 2 := by
          refine ⟨p - 2, ?_⟩
          rcases Nat.lt_or_ge p 2 with z | z
          · exact absurd (show nI p ≤ nI 1 from nI_le (by omega) (by omega)) h
          · omega
        obtain ⟨p2, rfl⟩ := hp2
        have e1 : nI (p2 + 2) - 1 = nI (p2 + 1) := nI_pred (p2 + 1)
        have e2 : nI (p2 + 1) - 1 = nI p2 := nI_pred p2
        rw [e1, e2]
        have v1 := vp_in_nI (show p2 < 13 by omega) (by decide)
        have v2 := vp_in_nI (show p2 + 1 < 13 by omega) (by decide)
        refine ⟨v1, v2, v2, v1, ?_⟩
        rw [nI_clamp (show p2 < 2147483648 by omega), nI_clamp (show p2 + 1 < 2147483648 by omega)]
        obtain ⟨a1, a2, a3⟩ := hC.2 p2 (by omega)
        obtain ⟨b1, b2, b3⟩ := hC.2 (p2 + 1) (by omega)
        have w1 := pwb (st := st) hb q p2
        have w2 := pwb (st := st) hb q (p2 + 1)
        have m1 : pS w g T st q (p2 + 1) * pW w T st q p2 ≤ 15360 * 64 := Nat.mul_le_mul w2.2 w1.1
        have m2 : pS w g T st q p2 * pW w T st q (p2 + 1) ≤ 15360 * 64 := Nat.mul_le_mul w1.2 w2.1
        have r1 : ∀ X, (sI s 117 p2 X).1 116 p2 = s.1 116 p2 := fun X => sI_of _ _ (by omega)
        have r2 : ∀ X, (sI s 117 p2 X).1 116 (p2 + 1) = s.1 116 (p2 + 1) := fun X => sI_of _ _ (by omega)
        have r3 : ∀ X Y, (sI (sI s 117 p2 X) 116 p2 Y).1 114 2 = s.1 114 2 := fun X Y => by rw [sI_of _ _ (by omega), sI_of _ _ (by omega)]
        rw [r1, r2, r3, a1, a2, b1, b2, hC.1, e1, pk_mul, pk_mul, nI_leI (by omega) (by omega), nI_add, nI_add, nI_1]
        refine ⟨fun hm => ⟨v1, v2, v1, v1, v2, v1, ?_⟩, fun hm => ?_⟩
        · -- the last two are put together
          have l1 := hM.1.2 p2 (by omega)
          have l2 := hM.1.2 (p2 + 1) (by omega)
          have l2' : q (p2 + 1) < q (p2 + 2) := l2.1
          obtain ⟨q2, hq2⟩ : ∃ q2 : Nat → Nat, q2 = fun j => if j = p2 + 1 then q (p2 + 2) else q j := ⟨_, rfl⟩
          have ea : q2 (p2 + 1) = q (p2 + 2) := by rw [hq2]; exact if_pos rfl
          have eb : ∀ j, j ≤ p2 → q2 j = q j := fun j hj => by rw [hq2]; exact if_neg (by omega)
          have eW : pW w T st q2 p2 = pW w T st q p2 + pW w T st q (p2 + 1) := by
            show wT w (iv T st (q2 p2) (q2 (p2 + 1))) = _
            rw [ea, eb p2 (Nat.le_refl _)]
            exact wT_iv (Nat.le_of_lt l1.1) (Nat.le_of_lt l2.1)
          have eS : pS w g T st q2 p2 = pS w g T st q p2 + pS w g T st q (p2 + 1) := by
            show gT w g (iv T st (q2 p2) (q2 (p2 + 1))) = _
            rw [ea, eb p2 (Nat.le_refl _)]
            exact gT_iv (Nat.le_of_lt l1.1) (Nat.le_of_lt l2.1)
          have eW' : ∀ j, j < p2 → pW w T st q2 j = pW w T st q j := fun j hj => by
            show wT w (iv T st (q2 j) (q2 (j + 1))) = _
            rw [eb j (by omega), eb (j + 1) (by omega)]; rfl
          have eS' : ∀ j, j < p2 → pS w g T st q2 j = pS w g T st q j := fun j hj => by
            show gT w g (iv T st (q2 j) (q2 (j + 1))) = _
            rw [eb j (by omega), eb (j + 1) (by omega)]; rfl
          refine ih (i + 1) (p2 + 1) q2 _ (by omega) (by omega) (by omega) (((hf.I (by simp)).I (by simp)).I (by simp)) ⟨sI_at _ _ _ _, fun j hj => ?_⟩ ⟨⟨by rw [eb 0 (by omega)]; exact hM.1.1, fun j hj => ?_⟩, fun j hj => ?_, fun c hc hx => ?_, by rw [ea]; exact hM.2.2.2.1, by have := hM.2.2.2.2; omega⟩ (fun j hj => ?_) (fun σ' p' q' k1 k2 k3 k4 k5 k6 => K σ' p' q' k1 k2 k3 k4 k5 (by rw [k6, ea]))
          · rcases Nat.lt_or_ge j p2 with z | z
            · obtain ⟨c1, c2, c3⟩ := hC.2 j (by omega)
              rw [eW' j z, eS' j z, eb j (by omega)]
              refine ⟨?_, ?_, ?_⟩
              · rw [sI_of _ _ (by omega), sI_of _ _ (by omega), sI_of _ _ (by omega)]; exact c1
              · rw [sI_of _ _ (by omega), sI_of _ _ (by omega), sI_of _ _ (by omega)]; exact c2
              · rw [sI_of _ _ (by omega), sI_of _ _ (by omega), sI_of _ _ (by omega)]; exact c3
            · have : j = p2 := by omega
              subst this
              rw [eW, eS, eb j (by omega)]
              refine ⟨?_, ?_, ?_⟩
              · rw [sI_of _ _ (by omega), sI_at]
              · rw [sI_of _ _ (by omega), sI_of _ _ (by omega), sI_at]
              · rw [sI_of _ _ (by omega), sI_of _ _ (by omega), sI_of _ _ (by omega)]; exact a3
          · rcases Nat.lt_or_ge j p2 with z | z
            · rw [eb j (by omega), eb (j + 1) (by omega)]; exact hM.1.2 j (by omega)
            · have : j = p2 := by omega
              subst this
              rw [ea, eb j (by omega)]
              exact ⟨by omega, by rw [wT_iv (Nat.le_of_lt l1.1) (Nat.le_of_lt l2.1)]; have := l1.2.1; omega, leaf_merge (Nat.le_of_lt l1.1) (Nat.le_of_lt l2.1) l1.2.1 l2.2.1 l1.2.2 l2.2.2 hm⟩
          · rcases Nat.lt_or_ge j p2 with z | z
            · rw [eb j (by omega), eb (j + 1) (by omega)]; exact hM.2.1 j (by omega)
            · have : j = p2 := by omega
              subst this
              obtain ⟨e, x1, x2, x3⟩ := hM.2.1 (j + 1) (by omega)
              have x4 := iv_iff.mp x2
              rw [ea, eb j (by omega)]
              exact ⟨e, x1, iv_iff.mpr ⟨x4.1, by have := l1.1; omega, x4.2.2⟩, x3⟩
          · rw [ea]; exact hM.2.2.1 c hc hx
          · have hj' : j + 1 < p2 := by omega
            rw [eS' j (by omega), eW' (j + 1) hj', eS' (j + 1) hj', eW' j (by omega)]
            exact hR j (by omega)
        · refine K s (p2 + 2) q hf hC hM (fun j hj => ?_) h4 rfl
          rcases Nat.lt_or_ge (j + 1) (p2 + 1) with z | z
          · exact hR j (by omega)
          · have : j = p2 := by omega
            subst this
            show pS w g T st q j * pW w T st q (j + 1) < pS w g T st q (j + 1) * pW w T st q j
            omega
  exact K95 (B95_0 (main p 0 p q σ (Nat.le_refl _) (by omega) h1 Fr.rfl hC hM hR K))
theorem c94 {r lv m : Nat} {B : Bk} (hB : BkC r lv B σ) (hk : BkOk lv B) (hm : m < bM B)
    (K : ∀ σ' p q, Fr [114, 116, 117, 118] σ σ' → PoC (bW B) (bG B) (fun c => decide (c < bN B)) (fun c => bS B c m) p q σ' → PoM (bW B) (bG B) (fun c => decide (c < bN B)) (fun c => bS B c m) p q 12 → PoR (bW B) (bG B) (fun c => decide (c < bN B)) (fun c => bS B c m) p q → Bnd (bW B) (bG B) (fun c => decide (c < bN B)) → Q none σ') :
    Cm Θ (d + 1) 94 [.ref 114, .ref r, .int (nI m)] σ Q := by
  obtain ⟨km, ⟨kn, klv⟩, ktp, -, kc, -⟩ := hk
  have hr := hB.1
  have hr1 := bk_s hr
  have hT : ∀ P : Nat → Bool, (∀ c, P c = true → decide (c < bN B) = true) → ∀ c, P c = true → c < bN B := fun P h c hc => of_decide_eq_true (h c hc)
  have hb : Bnd (bW B) (bG B) (fun c => decide (c < bN B)) := fun P h => ⟨wT_b (by omega) (hT P h) fun c hc => (kc c (by omega)).2.2.2.2.1, gT_b (hT P h) (fun c hc => (kc c (by omega)).2.2.2.2.1) fun c hc => (kc c (by omega)).2.2.1, qT_b (hT P h) (fun c hc => (kc c (by omega)).2.2.2.2.1) fun c hc => (kc c (by omega)).2.2.1⟩
  have hst : ∀ c, c < bN B → bS B c m ≤ 11 := fun c hc => Nat.le_trans ((kc c (by omega)).2.2.2.2.2 m hm) (ktp m hm).2
  let T : Nat → Bool := fun c => decide (c < bN B)
  let st : Nat → Nat := fun c => bS B c m
  have keep : ∀ s : Mem, Fr [114, 116, 117, 118] σ s → BkC r lv B s := fun s hs => BkC_fr hB hs (by intro x h1 h2; simp; omega)
  refine K94 (B94_0 hr1 ?_)
  refine loopS (α := Mem × Nat × (Nat → Nat)) (I := fun x z => Fr [114, 116, 117, 118] σ z.1 ∧ PoC (bW B) (bG B) T st z.2.1 z.2.2 z.1 ∧ PoM (bW B) (bG B) T st z.2.1 z.2.2 x ∧ PoR (bW B) (bG B) T st z.2.1 z.2.2)
    (P := fun x z => G Θ (d + 1) 94 10 [some (.ref 114), some (.ref r), some (.int (nI m)), some (.int (nI (if z.2.1 = 0 then 0 else 2 ^ z.2.2 z.2.1))), some (.int (nI x)), none, none, none] [] z.1 Q) 12 ?_ ?_ (sI σ 114 2 0, 0, fun _ => 0) ⟨Fr.rfl.I (by simp), ⟨sI_at _ _ _ _, fun j h => absurd h (Nat.not_lt_zero _)⟩, ⟨⟨rfl, fun j h => absurd h (Nat.not_lt_zero _)⟩, fun j h => absurd h (Nat.not_lt_zero _), fun c _ h => absurd h (Nat.not_lt_zero _), Nat.le_refl _, Nat.le_refl _⟩, fun j h => absurd h (Nat.not_lt_zero _)⟩
  · intro ⟨s, p, q⟩ ⟨h1, h2, h3, h4⟩
    exact B94_10 hr1 ⟨fun _ => K s p q h1 h2 h3 h4 hb, fun h => absurd (nI_lt (a := 11) (by omega) (by decide)) h⟩
  · intro x ⟨s, p, q⟩ hx ⟨h1, h2, h3, h4⟩ ih
    have h1 : Fr [114, 116, 117, 118] σ s := h1
    have h2 : PoC (bW B) (bG B) T st p q s := h2
    have h3 : PoM (bW B) (bG B) T st p q x := h3
    have h4 : PoR (bW B) (bG B) T st p q := h4
    have hBs := keep s h1
    have hn := hBs.2.2.1.1
    refine B94_10 hr1 ⟨fun h => absurd h (nI_nlt (a := 11) (by omega) (by omega)), fun _ => ?_⟩
    show G Θ (d + 1) 94 26 [some (.ref 114), some (.ref r), some (.int (nI m)), some (.int (nI (if p = 0 then 0 else 2 ^ q p))), some (.int (nI x)), some (.int 0), some (.int 0), some (.int 0)] [] s Q
    refine loopN (P := fun i => G Θ (d + 1) 94 26 [some (.ref 114), some (.ref r), some (.int (nI m)), some (.int (nI (if p = 0 then 0 else 2 ^ q p))), some (.int (nI x)), some (.int (nI (sN i (fun c => if st c = x then bW B c else 0)))), some (.int (nI (sN i (fun c => if st c = x then bW B c * bG B c else 0)))), some (.int (nI i))] [] s Q) (bN B) ?_ ?_
    · -- the step's sums
      have eset : ∀ f : Nat → Nat, sN (bN B) (fun c => if st c = x then f c else 0) = sN 16 (fun c => if iv T st (q p) (x + 1) c = true then f c else 0) := fun f => by
        rw [sN_cut (n := bN B) (by omega) (fun c hc => if_neg (fun z => by have := of_decide_eq_true (iv_iff.mp z).1; omega))]
        refine sN_congr _ fun c hc => ?_
        by_cases z : st c = x
        · rw [if_pos z, if_pos (iv_iff.mpr ⟨decide_eq_true hc, by have := h3.2.2.2.1; omega, by omega⟩)]
        · rw [if_neg z, if_neg fun y => ?_]
          have y := iv_iff.mp y
          have := h3.2.2.1 c (decide_eq_true hc) (by omega)
          omega
      have eW : sN (bN B) (fun c => if st c = x then bW B c else 0) = wT (bW B) (iv T st (q p) (x + 1)) := eset (bW B)
      have eS : sN (bN B) (fun c => if st c = x then bW B c * bG B c else 0) = gT (bW B) (bG B) (iv T st (q p) (x + 1)) := eset fun c => bW B c * bG B c
      rw [eW, eS]
      have bb := hb (iv T st (q p) (x + 1)) (fun c h => (iv_iff.mp h).1)
      refine B94_26 hr1 ⟨fun _ => ⟨fun h => ?_, fun h => ?_⟩, fun h => absurd (by rw [hn]; exact nI_le (Nat.le_refl _) (by omega)) h⟩
      · -- none has this step
        have hz : wT (bW B) (iv T st (q p) (x + 1)) = 0 := by
          rcases Nat.eq_zero_or_pos (wT (bW B) (iv T st (q p) (x + 1))) with z | z
          · exact z
          · exact absurd h (nI_nle z (by omega))
        rw [nI_1]
        refine ih (s, p, q) ⟨h1, h2, ⟨h3.1, h3.2.1, fun c hc hx2 => ?_, Nat.le_succ_of_le h3.2.2.2.1, Nat.le_succ_of_le h3.2.2.2.2⟩, h4⟩
        rcases Nat.lt_or_ge (st c) x with z | z
        · exact h3.2.2.1 c hc z
        · exfalso
          have hcn := of_decide_eq_true hc
          have := wT_pos (w := bW B) (T := iv T st (q p) (x + 1)) (fun c _ h => (kc c (by have := of_decide_eq_true (iv_iff.mp h).1; omega)).2.2.2.1) (show c < 16 by omega) (iv_iff.mpr ⟨hc, by have := h3.2.2.2.1; omega, hx2⟩)
          omega
      · have hpos : 0 < wT (bW B) (iv T st (q p) (x + 1)) := by
          rcases Nat.eq_zero_or_pos (wT (bW B) (iv T st (q p) (x + 1))) with z | z
          · rw [z] at h; exact absurd (nI_le (Nat.le_refl 0) (by decide)) h
          · exact z
        have hp12 : p ≤ 11 := by have := h3.2.2.2.2; omega
        have vp := vp_in_nI (show p < 13 by omega) (by decide)
        have r1 : ∀ X, (sI s 116 p X).1 114 2 = nI p := fun X => by rw [sI_of _ _ (by omega)]; exact h2.1
        have r2 : ∀ X Y, (sI (sI s 116 p X) 117 p Y).1 114 2 = nI p := fun X Y => by rw [sI_of _ _ (by omega)]; exact r1 X
        have r3 : ∀ X Y Z, (sI (sI (sI s 116 p X) 117 p Y) 118 p Z).1 114 2 = nI p := fun X Y Z => by rw [sI_of _ _ (by omega)]; exact r2 X Y
        rw [h2.1, nI_clamp (show p < 2147483648 by omega), r1, nI_clamp (show p < 2147483648 by omega), r2, nI_clamp (show p < 2147483648 by omega), r3, nI_1]
        refine ⟨vp, vp, vp, ?_⟩
        obtain ⟨q2, hq2⟩ : ∃ q2 : Nat → Nat, q2 = fun j => if j = p + 1 then x + 1 else q j := ⟨_, rfl⟩
        have ea : q2 (p + 1) = x + 1 := by rw [hq2]; exact if_pos rfl
        have eb : ∀ j, j ≤ p → q2 j = q j := fun j hj => by rw [hq2]; exact if_neg (by omega)
        have eW' : ∀ j, j < p → pW (bW B) T st q2 j = pW (bW B) T st q j := fun j hj => by
          show wT (bW B) (iv T st (q2 j) (q2 (j + 1))) = _
          rw [eb j (by omega), eb (j + 1) (by omega)]; rfl
        have eS' : ∀ j, j < p → pS (bW B) (bG B) T st q2 j = pS (bW B) (bG B) T st q j := fun j hj => by
          show gT (bW B) (bG B) (iv T st (q2 j) (q2 (j + 1))) = _
          rw [eb j (by omega), eb (j + 1) (by omega)]; rfl
        have eWp : pW (bW B) T st q2 p = wT (bW B) (iv T st (q p) (x + 1)) := by
          show wT (bW B) (iv T st (q2 p) (q2 (p + 1))) = _
          rw [ea, eb p (Nat.le_refl _)]
        have eSp : pS (bW B) (bG B) T st q2 p = gT (bW B) (bG B) (iv T st (q p) (x + 1)) := by
          show gT (bW B) (bG B) (iv T st (q2 p) (q2 (p + 1))) = _
          rw [ea, eb p (Nat.le_refl _)]
        have hsame : ∀ c, c < 16 → iv T st (q p) (x + 1) c = true → st c = x := fun c _ hc => by
          have y := iv_iff.mp hc
          rcases Nat.lt_or_ge (st c) x with z | z
          · have := h3.2.2.1 c y.1 z; omega
          · omega
        have hne : ∃ e, e < 16 ∧ iv T st (q p) (x + 1) e = true := by
          refine Classical.byContradiction fun z => ?_
          have := (wT_0 (w := bW B) (g := bG B) (T := iv T st (q p) (x + 1)) fun c hc => by
            cases y : iv T st (q p) (x + 1) c
            · rfl
            · exact absurd ⟨c, hc, y⟩ z).1
          omega
        refine c95 (T := T) (st := st) (p := p + 1) (q := q2) (x := x + 1) hb ⟨sI_at _ _ _ _, fun j hj => ?_⟩ ⟨⟨by rw [eb 0 (by omega)]; exact h3.1.1, fun j hj => ?_⟩, fun j hj => ?_, fun c _ hx2 => by rw [ea]; exact hx2, by rw [ea]; exact Nat.le_refl _, by have := h3.2.2.2.2; omega⟩ (fun j hj => ?_) (by omega) (by omega) fun σ6 p6 q6 f6 g2 g3 g4 g5 g6 => ⟨rfl, ?_⟩
        · rcases Nat.lt_or_ge j p with z | z
          · obtain ⟨c1, c2, c3⟩ := h2.2 j z
            rw [eW' j z, eS' j z, eb j (by omega)]
            refine ⟨?_, ?_, ?_⟩
            · rw [sI_of _ _ (by omega), sI_of _ _ (by omega), sI_of _ _ (by omega), sI_of _ _ (by omega)]; exact c1
            · rw [sI_of _ _ (by omega), sI_of _ _ (by omega), sI_of _ _ (by omega), sI_of _ _ (by omega)]; exact c2
            · rw [sI_of _ _ (by omega), sI_of _ _ (by omega), sI_of _ _ (by omega), sI_of _ _ (by omega)]; exact c3
          · have : j = p := by omega
            subst this
            rw [eWp, eSp, eb j (by omega)]
            refine ⟨?_, ?_, ?_⟩
            · rw [sI_of _ _ (by omega), sI_of _ _ (by omega), sI_of _ _ (by omega), sI_at]
            · rw [sI_of _ _ (by omega), sI_of _ _ (by omega), sI_at]
            · rw [sI_of _ _ (by omega), sI_at]
        · rcases Nat.lt_or_ge j p with z | z
          · rw [eb j (by omega), eb (j + 1) (by omega)]; exact h3.1.2 j z
          · have : j = p := by omega
            subst this
            rw [ea, eb j (by omega)]
            exact ⟨by have := h3.2.2.2.1; omega, hpos, leaf_same hsame⟩
        · rcases Nat.lt_or_ge j p with z | z
          · rw [eb j (by omega), eb (j + 1) (by omega)]; exact h3.2.1 j z
          · have : j = p := by omega
            subst this
            obtain ⟨e, x1, x2⟩ := hne
            rw [ea, eb j (by omega)]
            exact ⟨e, x1, x2, by rw [hsame e x1 x2]⟩
        · have hj' : j + 1 < p := by omega
          rw [eS' j (by omega), eW' (j + 1) hj', eS' (j + 1) hj', eW' j (by omega)]
          exact h4 j hj'
        · show G Θ (d + 1) 94 10 [some (.ref 114), some (.ref r), some (.int (nI m)), some (.int ((1 : Int32) <<< ((nI x + 1) &&& 31))), some (.int (nI x + 1)), none, none, none] [] σ6 Q
          rw [nI_1, pw_n (x + 1) (by omega)]
          have e6 : q6 p6 = x + 1 := by rw [g6, ea]
          have := ih (σ6, p6, q6) ⟨(h1.I (by simp)).I (by simp) |>.I (by simp) |>.I (by simp) |>.tr (f6.mono (by simp)), g2, g3, g4⟩
          have this : G Θ (d + 1) 94 10 [some (.ref 114), some (.ref r), some (.int (nI m)), some (.int (nI (if p6 = 0 then 0 else 2 ^ q6 p6))), some (.int (nI (x + 1))), none, none, none] [] σ6 Q := this
          rw [if_neg (by omega), e6] at this
          exact this
    · intro i hi ih2
      have v := vp_in_nI (show i < 16 by omega) (by decide)
      refine B94_26 hr1 ⟨fun h => absurd h (by rw [hn]; exact nI_ge hi (by omega)), fun _ => ?_⟩
      refine ro (c15 hr1 (by omega) (by omega)) ?_
      have es := hBs.2.2.1.2.2.2.2.2 i m (by omega) hm
      have sl := hst i hi
      rw [es, nI_eq (by omega) (by omega), nI_1]
      have s1 : sN (i + 1) (fun c => if st c = x then bW B c else 0) = sN i (fun c => if st c = x then bW B c else 0) + (if st i = x then bW B i else 0) := rfl
      have s2 : sN (i + 1) (fun c => if st c = x then bW B c * bG B c else 0) = sN i (fun c => if st c = x then bW B c * bG B c else 0) + (if st i = x then bW B i * bG B i else 0) := rfl
      rw [s1, s2] at ih2
      refine ⟨fun h => ?_, fun h => ⟨v, v, v, ?_⟩⟩
      · have h : ¬ st i = x := h
        rw [if_neg h, if_neg h] at ih2; exact ih2
      · have h : st i = x := h
        rw [if_pos h, if_pos h] at ih2
        rw [nI_clamp (by omega), hBs.2.2.1.2.2.2.2.1 i (by omega), hBs.2.2.1.2.2.2.1 i (by omega), pk_mul, nI_add, nI_add]
        exact ih2
end pool
