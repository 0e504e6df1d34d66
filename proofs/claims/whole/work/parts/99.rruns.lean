/-! CONTRACTS: the reference's runs: what one choice of beginnings costs -/
theorem VI_least {ov : Nat → Nat → Bool} {T : Nat → Bool} {wq gg f h : Nat → Rat} (hw : ∀ c, c < 16 → T c = true → 0 ≤ wq c) (hV : VI 16 ov T wq gg f) (hh : isoO 16 ov T h) : sT 16 T (fun c => wq c * ((gg c - f c) * (gg c - f c))) ≤ sT 16 T (fun c => wq c * ((gg c - h c) * (gg c - h c))) := by
  have h1 := hV.2 h hh
  have e : sT 16 T (fun c => wq c * ((gg c - h c) * (gg c - h c))) = sT 16 T (fun c => wq c * ((gg c - f c) * (gg c - f c))) - 2 * sT 16 T (fun c => wq c * (gg c - f c) * (h c - f c)) + sT 16 T (fun c => wq c * ((h c - f c) * (h c - f c))) := by
    rw [← sT_mul, ← sT_sub, ← sT_add]
    exact sT_congr fun c _ _ => by grind
  have h2 : 0 ≤ sT 16 T (fun c => wq c * ((h c - f c) * (h c - f c))) := sT_nonneg fun c hc hT => Rat.mul_nonneg (hw c hc hT) (sq_nn _)
  rw [e]; grind
/-- the nearest costs no more than 120 for all -/
theorem cost_120 {ov : Nat → Nat → Bool} {w g : Nat → Nat} {T : Nat → Bool} {f : Nat → Rat} (hb : wT w T ≤ 64) (hg : ∀ c, c < 16 → T c = true → g c ≤ 240) (hV : VI 16 ov T (qF w) (qF g) f) : 0 ≤ sT 16 T (fun c => qF w c * ((qF g c - f c) * (qF g c - f c))) ∧ sT 16 T (fun c => qF w c * ((qF g c - f c) * (qF g c - f c))) ≤ ((921600 : Nat) : Rat) := by
  refine ⟨sT_nonneg fun c _ _ => Rat.mul_nonneg Rat.natCast_nonneg (sq_nn _), ?_⟩
  have h1 := VI_least (h := fun _ => ((120 : Nat) : Rat)) (fun c _ _ => Rat.natCast_nonneg) hV (fun _ _ _ _ _ _ _ => Rat.le_refl)
  refine Rat.le_trans h1 ?_
  have e1 : sT 16 T (fun c => qF w c * ((qF g c - ((120 : Nat) : Rat)) * (qF g c - ((120 : Nat) : Rat)))) ≤ sT 16 T (fun c => ((w c * 14400 : Nat) : Rat)) := sT_le fun c hc hT => by
    have b2 : qF g c ≤ ((240 : Nat) : Rat) := Rat.natCast_le_natCast.mpr (hg c hc hT)
    have b3 : 0 ≤ qF g c := Rat.natCast_nonneg
    have n1 : ((240 : Nat) : Rat) = ((120 : Nat) : Rat) + ((120 : Nat) : Rat) := by rw [← Rat.natCast_add]
    have b4 := sq_le (x := qF g c - ((120 : Nat) : Rat)) (a := ((120 : Nat) : Rat)) (by grind) (by grind)
    have b5 := Rat.mul_le_mul_of_nonneg_left b4 (show 0 ≤ qF w c from Rat.natCast_nonneg)
    have e : ((w c * 14400 : Nat) : Rat) = qF w c * (((120 : Nat) : Rat) * ((120 : Nat) : Rat)) := by
      show ((w c * 14400 : Nat) : Rat) = ((w c : Nat) : Rat) * (((120 : Nat) : Rat) * ((120 : Nat) : Rat))
      rw [← Rat.natCast_mul, ← Rat.natCast_mul]
    rw [e]; exact b5
  rw [sT_castN] at e1
  refine Rat.le_trans e1 (Rat.natCast_le_natCast.mpr ?_)
  have e2 : ∀ n, sN n (fun c => if T c = true then w c * 14400 else 0) = sN n (fun c => if T c = true then w c else 0) * 14400 := by
    intro n
    induction n with
    | zero => show 0 = 0 * 14400; rw [Nat.zero_mul]
    | succ n ih2 =>
      show sN n _ + (if T n = true then w n * 14400 else 0) = (sN n _ + (if T n = true then w n else 0)) * 14400
      rw [ih2, Nat.add_mul]
      by_cases q : T n = true
      · rw [if_pos q, if_pos q]
      · rw [if_neg q, if_neg q, Nat.zero_mul]
  rw [e2]
  have : sN 16 (fun c => if T c = true then w c else 0) ≤ 64 := hb
  omega
def RuC (w g : Nat → Nat) (T : Nat → Bool) (κ : Nat → Nat) (m : Nat) (r : Nat → Nat) (σ : Mem) : Prop :=
  ∀ j, j < m → σ.1 158 j = nI (pW w T κ r j) ∧ σ.1 159 j = nI (pS w g T κ r j) ∧ σ.2.1 160 j = jJ ((qT w g (iv T κ (r j) (r (j + 1))) : Nat) : Int)
/-- no block is above the next -/
def RuR (w g : Nat → Nat) (T : Nat → Bool) (κ : Nat → Nat) (m : Nat) (r : Nat → Nat) : Prop := ∀ j, j + 1 < m → pS w g T κ r j * pW w T κ r (j + 1) ≤ pS w g T κ r (j + 1) * pW w T κ r j
theorem ix1 : ∀ x : Nat, (nI (x + 1) + (-1) : Int32) = nI x := pk_m1
section rruns
variable {Θ : Th} {d : Nat} {σ : Mem} {Q : Po} {w g κ : Nat → Nat} {T : Nat → Bool}
/-- blocks are joined while they fall -/
theorem c236_223 {x1 x2 x4 : Int32} (hb : Bnd w g T) : ∀ (m : Nat) (r : Nat → Nat) (σ : Mem) (Q : Po), m ≤ 11 → RuC w g T κ (m + 1) r σ → Pav w g T κ r (m + 1) → RuR w g T κ m r →
    (∀ σ' m' r', Fr [158, 159, 160] σ σ' → m' ≤ m → RuC w g T κ (m' + 1) r' σ' → Pav w g T κ r' (m' + 1) → RuR w g T κ (m' + 1) r' → r' (m' + 1) = r (m + 1) → G Θ (d + 1) 236 327 [some (.ref 124), some (.int x1), some (.int x2), some (.int (nI (m' + 1))), some (.int x4), none] [] σ' Q) →
    G Θ (d + 1) 236 223 [some (.ref 124), some (.int x1), some (.int x2), some (.int (nI (m + 1))), some (.int x4), some (.int 1)] [] σ Q := by
  intro m
  induction m with
  | zero =>
    intro r σ Q _ hC hP hR K
    exact B236_223 ⟨fun h => absurd h (by decide), fun _ => ⟨fun _ => K σ 0 r Fr.rfl (Nat.le_refl _) hC hP (fun j hj => by omega) rfl, fun h => absurd (nI_le (a := 0 + 1) (b := 1) (by omega) (by decide)) h⟩⟩
  | succ m ih =>
    intro r σ Q h11 hC hP hR K
    have e1 : nI (m + 1 + 1) - 1 = nI (m + 1) := nI_pred (m + 1)
    have e2 : nI (m + 1 + 1) - 2 = nI m := by rw [show (2 : Int32) = nI 2 from rfl, pk_sub (by omega)]; rfl
    have e3 : nI (m + 1 + 1) + (-1) = nI (m + 1) := pk_m1 (m + 1)
    have e4 : nI (m + 1) - 1 = nI m := nI_pred m
    have v1 := vp_in_nI (show m < 13 by omega) (by decide)
    have v2 := vp_in_nI (show m + 1 < 13 by omega) (by decide)
    refine B236_223 ⟨fun h => absurd h (by decide), fun _ => ⟨fun h => absurd h (nI_ge (a := 1) (by omega) (by omega)), fun _ => ?_⟩⟩
    rw [e1, e2, e3, e4]
    refine ⟨v1, v2, v2, v1, ?_⟩
    obtain ⟨a1, a2, a3⟩ := hC m (by omega)
    obtain ⟨b1, b2, b3⟩ := hC (m + 1) (by omega)
    have w1 := pwb (st := κ) hb r m
    have w2 := pwb (st := κ) hb r (m + 1)
    have m1 : pS w g T κ r (m + 1) * pW w T κ r m ≤ 15360 * 64 := Nat.mul_le_mul w2.2 w1.1
    have m2 : pS w g T κ r m * pW w T κ r (m + 1) ≤ 15360 * 64 := Nat.mul_le_mul w1.2 w2.1
    rw [nI_clamp (show m < 2147483648 by omega), nI_clamp (show m + 1 < 2147483648 by omega), a1, a2, b1, b2, pk_mul, pk_mul, nI_leI (by omega) (by omega), nI_add]
    refine ⟨fun hle => ?_, fun hgt => ⟨v1, v2, v1, v1, v2, v1, v1, v2, v1, ?_⟩⟩
    · refine K σ (m + 1) r Fr.rfl (Nat.le_refl _) hC hP (fun j hj => ?_) rfl
      rcases Nat.lt_or_ge (j + 1) (m + 1) with z | z
      · exact hR j z
      · have : j = m := by omega
        subst this; exact hle
    · have l1 := hP.2 m (by omega)
      have l2 := hP.2 (m + 1) (by omega)
      obtain ⟨q2, hq2⟩ : ∃ q2 : Nat → Nat, q2 = fun j => if j = m + 1 then r (m + 2) else r j := ⟨_, rfl⟩
      have ea : q2 (m + 1) = r (m + 2) := by rw [hq2]; exact if_pos rfl
      have eb : ∀ j, j ≤ m → q2 j = r j := fun j hj => by rw [hq2]; exact if_neg (by omega)
      have l2' : r (m + 1) < r (m + 2) := l2.1
      have eW : pW w T κ q2 m = pW w T κ r m + pW w T κ r (m + 1) := by
        show wT w (iv T κ (q2 m) (q2 (m + 1))) = _
        rw [ea, eb m (Nat.le_refl _)]
        exact wT_iv (Nat.le_of_lt l1.1) (Nat.le_of_lt l2.1)
      have eS : pS w g T κ q2 m = pS w g T κ r m + pS w g T κ r (m + 1) := by
        show gT w g (iv T κ (q2 m) (q2 (m + 1))) = _
        rw [ea, eb m (Nat.le_refl _)]
        exact gT_iv (Nat.le_of_lt l1.1) (Nat.le_of_lt l2.1)
      have eQ : qT w g (iv T κ (q2 m) (q2 (m + 1))) = qT w g (iv T κ (r m) (r (m + 1))) + qT w g (iv T κ (r (m + 1)) (r (m + 1 + 1))) := by
        rw [ea, eb m (Nat.le_refl _)]
        exact qT_iv (Nat.le_of_lt l1.1) (Nat.le_of_lt l2.1)
      have eW' : ∀ j, j < m → pW w T κ q2 j = pW w T κ r j := fun j hj => by
        show wT w (iv T κ (q2 j) (q2 (j + 1))) = _
        rw [eb j (by omega), eb (j + 1) (by omega)]; rfl
      have eS' : ∀ j, j < m → pS w g T κ q2 j = pS w g T κ r j := fun j hj => by
        show gT w g (iv T κ (q2 j) (q2 (j + 1))) = _
        rw [eb j (by omega), eb (j + 1) (by omega)]; rfl
      obtain ⟨s1, hs1⟩ : ∃ s1, s1 = sI σ 158 m (nI (pW w T κ r m + pW w T κ r (m + 1))) := ⟨_, rfl⟩
      rw [← hs1]
      have g1 : s1.1 159 m = nI (pS w g T κ r m) := by rw [hs1, sI_of _ _ (by omega)]; exact a2
      have g2 : s1.1 159 (m + 1) = nI (pS w g T κ r (m + 1)) := by rw [hs1, sI_of _ _ (by omega)]; exact b2
      rw [g1, g2, nI_add]
      obtain ⟨s2, hs2⟩ : ∃ s2, s2 = sI s1 159 m (nI (pS w g T κ r m + pS w g T κ r (m + 1))) := ⟨_, rfl⟩
      rw [← hs2]
      have g3 : s2.2.1 160 m = jJ ((qT w g (iv T κ (r m) (r (m + 1))) : Nat) : Int) := by rw [hs2, sI_L, hs1, sI_L]; exact a3
      have g4 : s2.2.1 160 (m + 1) = jJ ((qT w g (iv T κ (r (m + 1)) (r (m + 1 + 1))) : Nat) : Int) := by rw [hs2, sI_L, hs1, sI_L]; exact b3
      rw [g3, g4, jJ_add, ← Int.natCast_add, ← eQ]
      have f2 : Fr [158, 159, 160] σ (sL s2 160 m (jJ ((qT w g (iv T κ (q2 m) (q2 (m + 1))) : Nat) : Int))) := by rw [hs2, hs1]; exact ((Fr.rfl.I (by simp)).I (by simp)).L (by simp)
      refine ih q2 _ Q (by omega) (fun j hj => ?_) ⟨by rw [eb 0 (by omega)]; exact hP.1, fun j hj => ?_⟩ (fun j hj => ?_) (fun σ' m' r' k1 k2 k3 k4 k5 k6 => K σ' m' r' (f2.tr k1) (by omega) k3 k4 k5 (by rw [k6, ea]))
      · rcases Nat.lt_or_ge j m with z | z
        · obtain ⟨c1, c2, c3⟩ := hC j (by omega)
          rw [eW' j z, eS' j z, eb j (by omega), eb (j + 1) (by omega)]
          refine ⟨?_, ?_, ?_⟩
          · rw [sL_I, hs2, sI_of _ _ (by omega), hs1, sI_of _ _ (by omega)]; exact c1
          · rw [sL_I, hs2, sI_of _ _ (by omega), hs1, sI_of _ _ (by omega)]; exact c2
          · rw [sL_of _ _ (by omega), hs2, sI_L, hs1, sI_L]; exact c3
        · have : j = m := by omega
          subst this
          rw [eW, eS]
          refine ⟨?_, ?_, sL_at _ _ _ _⟩
          · rw [sL_I, hs2, sI_of _ _ (by omega), hs1, sI_at]
          · rw [sL_I, hs2, sI_at]
      · rcases Nat.lt_or_ge j m with z | z
        · rw [eb j (by omega), eb (j + 1) (by omega)]; exact hP.2 j (by omega)
        · have : j = m := by omega
          subst this
          rw [ea, eb j (by omega)]
          refine ⟨by omega, by rw [wT_iv (Nat.le_of_lt l1.1) (Nat.le_of_lt l2.1)]; have := l1.2.1; omega, leaf_merge (Nat.le_of_lt l1.1) (Nat.le_of_lt l2.1) l1.2.1 l2.2.1 l1.2.2 l2.2.2 ?_⟩
          show pS w g T κ r (j + 1) * pW w T κ r j ≤ pS w g T κ r j * pW w T κ r (j + 1)
          omega
      · rw [eS' j (by omega), eW' (j + 1) hj, eS' (j + 1) hj, eW' j (by omega)]
        exact hR j (by omega)
theorem pC_le {r : Nat → Nat} {m : Nat} (hP : Pav w g T κ r m) {j : Nat} (hj : j < m) : pC w g T κ r j ≤ ((qT w g (iv T κ (r j) (r (j + 1))) : Nat) : Rat) := by
  have hW := (hP.2 j hj).2.1
  have hWp := Rat.natCast_pos.mpr hW
  refine Rat.le_of_mul_le_mul_right (c := ((wT w (iv T κ (r j) (r (j + 1))) : Nat) : Rat)) ?_ hWp
  have h2 : ((wT w (iv T κ (r j) (r (j + 1))) : Nat) : Rat) ≠ 0 := by intro z; rw [z] at hWp; exact absurd hWp Rat.lt_irrefl
  have e : pC w g T κ r j * ((wT w (iv T κ (r j) (r (j + 1))) : Nat) : Rat) = (((qT w g (iv T κ (r j) (r (j + 1))) : Int) * (wT w (iv T κ (r j) (r (j + 1))) : Int) - (gT w g (iv T κ (r j) (r (j + 1))) : Int) * (gT w g (iv T κ (r j) (r (j + 1))) : Int) : Int) : Rat) := by
    unfold pC
    rw [Rat.mkRat_eq_div]; exact Rat.div_mul_cancel h2
  rw [e, ← Rat.natCast_mul]
  have : (((qT w g (iv T κ (r j) (r (j + 1))) * wT w (iv T κ (r j) (r (j + 1))) : Nat) : Int) : Rat) = ((qT w g (iv T κ (r j) (r (j + 1))) * wT w (iv T κ (r j) (r (j + 1))) : Nat) : Rat) := rfl
  rw [← this]
  refine Rat.intCast_le_intCast.mpr ?_
  rw [Int.natCast_mul]
  have := Int.mul_nonneg (Int.natCast_nonneg (gT w g (iv T κ (r j) (r (j + 1))))) (Int.natCast_nonneg (gT w g (iv T κ (r j) (r (j + 1)))))
  omega
/-- the blocks' costs are added up -/
theorem c236_342 {m : Nat} {r : Nat → Nat} (hb : Bnd w g T) (h12 : m ≤ 12) (hC : RuC w g T κ m r σ) (hP : Pav w g T κ r m) (h0 : σ.2.1 124 44 = jJ (0 : Rat).num ∧ σ.2.1 124 45 = jJ (((0 : Rat).den : Nat) : Int))
    (K : ∀ σ', Ft [] σ σ' → (sQ m (pC w g T κ r)).den ≤ 2300000 → (σ'.2.1 124 44 = jJ (sQ m (pC w g T κ r)).num ∧ σ'.2.1 124 45 = jJ ((sQ m (pC w g T κ r)).den : Nat)) → Q none σ') : G Θ (d + 3) 236 342 [some (.ref 124), none, none, some (.int (nI m)), some (.int 0), none] [] σ Q := by
  have hinc : ∀ j, j < m → r j < r (j + 1) := fun j hj => (hP.2 j hj).1
  have start := loopS (α := Mem × List Nat) (I := fun j z => Ft [] σ z.1 ∧ (z.1.2.1 124 44 = jJ (sQ j (pC w g T κ r)).num ∧ z.1.2.1 124 45 = jJ ((sQ j (pC w g T κ r)).den : Nat)) ∧ (∀ a, a ∈ z.2 → 1 ≤ a ∧ a ≤ 64) ∧ sumL z.2 = wT w (iv T κ 0 (r j)) ∧ (sQ j (pC w g T κ r)).den ∣ lcmL z.2 ∧ 0 ≤ sQ j (pC w g T κ r) ∧ sQ j (pC w g T κ r) ≤ ((qT w g (iv T κ 0 (r j)) : Nat) : Rat)) (P := fun j z => G Θ (d + 3) 236 342 [some (.ref 124), none, none, some (.int (nI m)), some (.int (nI j)), none] [] z.1 Q) m ?_ ?_ (σ, []) ⟨Ft.rfl, h0, fun _ h => (by cases h), ?_, Nat.dvd_refl 1, Rat.le_refl, Rat.natCast_nonneg⟩
  · exact start
  · intro ⟨s, L⟩ ⟨f1, f2, f3, f4, f5, f6, f7⟩
    have bb := hb (iv T κ 0 (r m)) (fun c h => (iv_iff.mp h).1)
    have f4 : sumL L = wT w (iv T κ 0 (r m)) := f4
    refine B236_342 ⟨fun _ => K s f1 ?_ f2, fun h => absurd (nI_le (Nat.le_refl _) (by omega)) h⟩
    exact Nat.le_trans (Nat.le_of_dvd (lcm_pos _ fun a ha => (f3 a ha).1) f5) (lcm_64 f3 (by omega))
  · intro j ⟨s, L⟩ hj ⟨f1, f2, f3, f4, f5, f6, f7⟩ ih
    have f1 : Ft [] σ s := f1
    have f3 : ∀ a, a ∈ L → 1 ≤ a ∧ a ≤ 64 := f3
    have f4 : sumL L = wT w (iv T κ 0 (r j)) := f4
    have f5 : (sQ j (pC w g T κ r)).den ∣ lcmL L := f5
    have v := vp_in_nI (show j < 13 by omega) (by decide)
    have hW := (hP.2 j hj).2.1
    have bb := hb (iv T κ (r j) (r (j + 1))) (fun c h => (iv_iff.mp h).1)
    have bb0 := hb (iv T κ 0 (r j)) (fun c h => (iv_iff.mp h).1)
    have bb1 := hb (iv T κ 0 (r (j + 1))) (fun c h => (iv_iff.mp h).1)
    have ew := wT_iv (w := w) (T := T) (κ := κ) (Nat.zero_le (r j)) (Nat.le_of_lt (hinc j hj))
    obtain ⟨c1, c2, c3⟩ := hC j hj
    refine B236_342 ⟨fun h => absurd h (nI_ge hj (by omega)), fun _ => ⟨v, v, v, v, v, ?_⟩⟩
    rw [nI_clamp (by omega), (f1.1 158 (by simp) (by decide)).1, (f1.1 159 (by simp) (by decide)).1, (f1.1 160 (by simp) (by decide)).2.1, c1, c2, c3]
    have w1 := pwb (st := κ) hb r j
    rw [nI_j (show pW w T κ r j < 2 ^ 31 by omega), nI_j (show pS w g T κ r j < 2 ^ 31 by omega), jJ_mul, jJ_mul, jJ_sub, nI_1]
    have cu := cost_0 (w := w) (g := g) hW
    have cu' : ((qT w g (iv T κ (r j) (r (j + 1))) : Int) * (wT w (iv T κ (r j) (r (j + 1))) : Int) - (gT w g (iv T κ (r j) (r (j + 1))) : Int) * (gT w g (iv T κ (r j) (r (j + 1))) : Int)) ≤ 235929600 := by
      have h1 : qT w g (iv T κ (r j) (r (j + 1))) * wT w (iv T κ (r j) (r (j + 1))) ≤ 3686400 * 64 := Nat.mul_le_mul bb.2.2 bb.1
      rw [← Int.natCast_mul, ← Int.natCast_mul]; omega
    have hMl : lcmL (wT w (iv T κ (r j) (r (j + 1))) :: L) ≤ 2300000 := lcm_64 (fun a ha => by
      rcases List.mem_cons.mp ha with rfl | ha
      · exact ⟨hW, bb.1⟩
      · exact f3 a ha) (by show wT w (iv T κ (r j) (r (j + 1))) + sumL L ≤ 64; omega)
    have f7' : sQ j (pC w g T κ r) ≤ ((3686400 : Nat) : Rat) := by
      have f7 : sQ j (pC w g T κ r) ≤ ((qT w g (iv T κ 0 (r j)) : Nat) : Rat) := f7
      have : ((qT w g (iv T κ 0 (r j)) : Nat) : Rat) ≤ ((3686400 : Nat) : Rat) := Rat.natCast_le_natCast.mpr bb0.2.2
      exact Rat.le_trans f7 this
    obtain ⟨a1, a2, a3, a4⟩ := add_ok f3 hMl (Nat.le_refl _) ⟨hW, bb.1⟩ f5 f6 f7' cu cu'
    refine c212 (r := sQ j (pC w g T κ r)) f2 a1 hW a2 a3 a4 ⟨rfl, ?_⟩
    have es : sQ j (pC w g T κ r) + mkRat ((qT w g (iv T κ (r j) (r (j + 1))) : Int) * (wT w (iv T κ (r j) (r (j + 1))) : Int) - (gT w g (iv T κ (r j) (r (j + 1))) : Int) * (gT w g (iv T κ (r j) (r (j + 1))) : Int)) (wT w (iv T κ (r j) (r (j + 1)))) = sQ (j + 1) (pC w g T κ r) := rfl
    show G Θ (d + 3) 236 342 [some (.ref 124), none, none, some (.int (nI m)), some (.int (nI (j + 1))), none] [] (frW s 124 44 45 (sQ (j + 1) (pC w g T κ r))) Q
    have hpc := pC_le hP hj
    refine ih (_, wT w (iv T κ (r j) (r (j + 1))) :: L) ⟨Ft.fw f1 _, ⟨by show (frW s 124 44 45 (sQ (j + 1) (pC w g T κ r))).2.1 124 44 = _; rw [frW, sL_of _ _ (by omega), sL_at], by show (frW s 124 44 45 (sQ (j + 1) (pC w g T κ r))).2.1 124 45 = _; rw [frW, sL_at]⟩, fun a ha => ?_, ?_, ?_, ?_, ?_⟩
    · rcases List.mem_cons.mp ha with rfl | ha
      · exact ⟨hW, bb.1⟩
      · exact f3 a ha
    · show wT w (iv T κ (r j) (r (j + 1))) + sumL L = wT w (iv T κ 0 (r (j + 1)))
      omega
    · rw [← es]; exact add_den hW f5
    · have f6 : 0 ≤ sQ j (pC w g T κ r) := f6
      have : 0 ≤ pC w g T κ r j := by
        rw [show pC w g T κ r j = _ from (sq_cost (w := w) (g := g) hW).symm]
        exact sT_nonneg fun c _ _ => Rat.mul_nonneg Rat.natCast_nonneg (sq_nn _)
      show 0 ≤ sQ j (pC w g T κ r) + pC w g T κ r j
      grind
    · have f7 : sQ j (pC w g T κ r) ≤ ((qT w g (iv T κ 0 (r j)) : Nat) : Rat) := f7
      show sQ j (pC w g T κ r) + pC w g T κ r j ≤ _
      rw [qT_iv (Nat.zero_le _) (Nat.le_of_lt (hinc j hj)), Rat.natCast_add]; grind
  · show 0 = wT w (iv T κ 0 (r 0))
    rw [hP.1, (wT_none (g := g) (Nat.le_refl 0)).1]
end rruns
