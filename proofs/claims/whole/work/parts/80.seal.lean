/-! CONTRACTS: a block is sealed; the fit by squares -/
theorem num_b {rr : Rat} {k : Nat} (h0 : 0 ≤ rr) (h1 : rr ≤ ((k : Nat) : Rat)) : 0 ≤ rr.num ∧ rr.num ≤ (k : Int) * (rr.den : Int) := by
  rw [Rat.le_iff] at h0 h1
  have e1 : (((k : Nat) : Rat)).num = (k : Int) := Rat.num_natCast k
  have e2 : (((k : Nat) : Rat)).den = 1 := Rat.den_natCast k
  rw [e1, e2] at h1
  have e3 : (0 : Rat).num = 0 := rfl
  have e4 : (0 : Rat).den = 1 := rfl
  rw [e3, e4] at h0
  constructor <;> omega
/-- the bounds that an addition wants -/
theorem add_ok {rr : Rat} {u : Int} {W M : Nat} {L : List Nat} (hL : ∀ a, a ∈ L → 1 ≤ a ∧ a ≤ 64) (hM : lcmL (W :: L) ≤ M) (hM2 : M ≤ 2300000) (hW : 1 ≤ W ∧ W ≤ 64) (hden : rr.den ∣ lcmL L) (h0 : 0 ≤ rr) (h1 : rr ≤ ((3686400 : Nat) : Rat)) (hu : 0 ≤ u) (hu' : u ≤ 235929600) :
    rr.den < 2 ^ 49 ∧ Nat.lcm rr.den W < 2 ^ 49 ∧ -9000000000000000000 < rr.num * ((W / Nat.gcd rr.den W : Nat) : Int) + u * ((rr.den / Nat.gcd rr.den W : Nat) : Int) ∧ rr.num * ((W / Nat.gcd rr.den W : Nat) : Int) + u * ((rr.den / Nat.gcd rr.den W : Nat) : Int) < 9000000000000000000 := by
  have hpos : 0 < lcmL (W :: L) := lcm_pos _ fun a ha => by
    rcases List.mem_cons.mp ha with rfl | ha
    · exact hW.1
    · exact (hL a ha).1
  have hd0 : 0 < rr.den := rr.den_pos
  have d1 : Nat.lcm rr.den W ∣ lcmL (W :: L) := Nat.lcm_dvd (Nat.dvd_trans hden (Nat.dvd_lcm_right _ _)) (Nat.dvd_lcm_left _ _)
  have l1 : Nat.lcm rr.den W ≤ M := Nat.le_trans (Nat.le_of_dvd hpos d1) hM
  have l2 : rr.den ≤ M := Nat.le_trans (Nat.le_of_dvd hpos (Nat.dvd_trans hden (Nat.dvd_lcm_right _ _))) hM
  obtain ⟨n0, n1⟩ := num_b h0 h1
  have hg0 : 0 < Nat.gcd rr.den W := Nat.gcd_pos_of_pos_left _ hd0
  have el : rr.den * (W / Nat.gcd rr.den W) = Nat.lcm rr.den W := by
    have e : rr.den * W = Nat.gcd rr.den W * (rr.den * (W / Nat.gcd rr.den W)) := by
      rw [Nat.mul_left_comm, Nat.mul_div_cancel' (Nat.gcd_dvd_right _ _)]
    show _ = rr.den * W / Nat.gcd rr.den W
    rw [e, Nat.mul_div_cancel_left _ hg0]
  have m1 : rr.num * ((W / Nat.gcd rr.den W : Nat) : Int) ≤ 3686400 * (Nat.lcm rr.den W : Int) := by
    have := Int.mul_le_mul_of_nonneg_right n1 (Int.natCast_nonneg (W / Nat.gcd rr.den W))
    rw [← el, Int.natCast_mul, ← Int.mul_assoc]; exact this
  have m0 : 0 ≤ rr.num * ((W / Nat.gcd rr.den W : Nat) : Int) := Int.mul_nonneg n0 (Int.natCast_nonneg _)
  have b2 : rr.den / Nat.gcd rr.den W ≤ M := Nat.le_trans (Nat.div_le_self _ _) l2
  have m2 : u * ((rr.den / Nat.gcd rr.den W : Nat) : Int) ≤ 235929600 * 2300000 := Int.mul_le_mul hu' (by omega) (Int.natCast_nonneg _) (by omega)
  have m3 : 0 ≤ u * ((rr.den / Nat.gcd rr.den W : Nat) : Int) := Int.mul_nonneg hu (Int.natCast_nonneg _)
  generalize rr.num * ((W / Nat.gcd rr.den W : Nat) : Int) = x at m0 m1 ⊢
  generalize u * ((rr.den / Nat.gcd rr.den W : Nat) : Int) = y at m2 m3 ⊢
  generalize Nat.lcm rr.den W = z at l1 m1 ⊢
  refine ⟨by omega, by omega, by omega, by omega⟩
theorem add_den {rr : Rat} {u : Int} {W : Nat} {L : List Nat} (hW : 1 ≤ W) (hden : rr.den ∣ lcmL L) : (rr + mkRat u W).den ∣ lcmL (W :: L) := by
  have hd0 : 0 < rr.den := rr.den_pos
  have e := add_rat (r := rr) (u := u) (l := W) (g := Nat.gcd rr.den W) hW rfl
  rw [← e]
  have hl : rr.den / Nat.gcd rr.den W * W = Nat.lcm rr.den W := by
    have hg0 : 0 < Nat.gcd rr.den W := Nat.gcd_pos_of_pos_left _ hd0
    have e : rr.den * W = Nat.gcd rr.den W * (rr.den / Nat.gcd rr.den W * W) := by rw [← Nat.mul_assoc, Nat.mul_div_cancel' (Nat.gcd_dvd_left _ _)]
    show _ = rr.den * W / Nat.gcd rr.den W
    rw [e, Nat.mul_div_cancel_left _ hg0]
  rw [hl]
  have h1 := (mk_num (u := rr.num * ((W / Nat.gcd rr.den W : Nat) : Int) + u * ((rr.den / Nat.gcd rr.den W : Nat) : Int)) (l := Nat.lcm rr.den W) (Nat.lcm_pos hd0 hW) rfl).2
  rw [h1]
  exact Nat.dvd_trans (Nat.div_dvd_of_dvd (Nat.gcd_dvd_right _ _)) (Nat.lcm_dvd (Nat.dvd_trans hden (Nat.dvd_lcm_right _ _)) (Nat.dvd_lcm_left _ _))
/-- what a block costs, in whole numbers -/
theorem cost_0 {w g : Nat → Nat} {T : Nat → Bool} (hp : 0 < wT w T) : 0 ≤ ((qT w g T : Int) * (wT w T : Int) - (gT w g T : Int) * (gT w g T : Int)) := by
  have h1 := sq_cost (w := w) (g := g) hp
  have h2 : 0 ≤ sT 16 T (fun c => qF w c * ((qF g c - mT w g T) * (qF g c - mT w g T))) := sT_nonneg fun c _ _ => Rat.mul_nonneg Rat.natCast_nonneg (by
    rcases Rat.le_total (a := 0) (b := qF g c - mT w g T) with q | q
    · exact Rat.mul_nonneg q q
    · have := Rat.mul_nonneg (a := -(qF g c - mT w g T)) (b := -(qF g c - mT w g T)) (by grind) (by grind)
      grind)
  rw [h1, Rat.mkRat_eq_div] at h2
  have hW : 0 < ((wT w T : Nat) : Rat) := Rat.natCast_pos.mpr hp
  have hW0 : ((wT w T : Nat) : Rat) ≠ 0 := fun q => by rw [q] at hW; exact absurd hW Rat.lt_irrefl
  have h3 := Rat.mul_nonneg h2 (Rat.le_of_lt hW)
  rw [Rat.div_mul_cancel hW0] at h3
  exact Rat.intCast_nonneg.mp h3
section blk
variable {Θ : Th} {d : Nat} {σ : Mem} {Q : Po} {o r l : Nat} {B : Bk} {D : Nat → Nat → Bool} {T : Nat → Bool}
theorem c70 {rr : Rat} {L : List Nat} (ho : o = 92 ∨ o = 101) (hF : Fit r l B D σ) (hT : ∀ c, T c = true → c < bN B) (hp : 0 < wT (bW B) T) (htot : σ.2.1 (o + 4) 0 = jJ rr.num ∧ σ.2.1 (o + 4) 1 = jJ (rr.den : Nat)) (hL : ∀ a, a ∈ L → 1 ≤ a ∧ a ≤ 64) (hS : sumL L + wT (bW B) T ≤ 64) (hden : rr.den ∣ lcmL L) (h0 : 0 ≤ rr) (h1 : rr ≤ ((3686400 : Nat) : Rat))
    (k : ∀ σ', Fr [o + 1, o + 2, o + 3, o + 4, o + 8] σ σ' → (∀ c, T c = true → σ'.1 (o + 1) c = sX T ∧ σ'.2.1 (o + 2) c = jJ (mT (bW B) (bG B) T).num ∧ σ'.2.1 (o + 3) c = jJ ((mT (bW B) (bG B) T).den : Nat)) → (∀ c, T c = false → σ'.1 (o + 1) c = σ.1 (o + 1) c ∧ σ'.2.1 (o + 2) c = σ.2.1 (o + 2) c ∧ σ'.2.1 (o + 3) c = σ.2.1 (o + 3) c) →
      (σ'.2.1 (o + 4) 0 = jJ (rr + mkRat ((qT (bW B) (bG B) T : Int) * (wT (bW B) T : Int) - (gT (bW B) (bG B) T : Int) * (gT (bW B) (bG B) T : Int)) (wT (bW B) T)).num ∧ σ'.2.1 (o + 4) 1 = jJ ((rr + mkRat ((qT (bW B) (bG B) T : Int) * (wT (bW B) T : Int) - (gT (bW B) (bG B) T : Int) * (gT (bW B) (bG B) T : Int)) (wT (bW B) T)).den : Nat)) → Q none σ') :
    Cm Θ (d + 3) 70 [.ref o, .ref r, .int (sX T)] σ Q := by
  obtain ⟨⟨hr, hl⟩, ⟨hn, h16⟩, hc, hrow⟩ := id hF
  have hw4 : ∀ c, c < bN B → bW B c ≤ 4 := fun c h => (hc c h).2.2.2
  have hg2 : ∀ c, c < bN B → bG B c ≤ 240 := fun c h => (hc c h).1.2
  have bW' := wT_b (w := bW B) (T := T) h16 hT hw4
  have bG' := gT_b (w := bW B) (g := bG B) (T := T) hT hw4 hg2
  have bQ' := qT_b (w := bW B) (g := bG B) (T := T) hT hw4 hg2
  have eW : sN 16 (fun c => if T c = true then bW B c else 0) = sN (bN B) (fun c => if T c = true then bW B c else 0) := sN_cut h16 fun c h => if_neg fun q => by have := hT c q; omega
  have eG : sN 16 (fun c => if T c = true then bW B c * bG B c else 0) = sN (bN B) (fun c => if T c = true then bW B c * bG B c else 0) := sN_cut h16 fun c h => if_neg fun q => by have := hT c q; omega
  have eQ : sN 16 (fun c => if T c = true then bW B c * bG B c * bG B c else 0) = sN (bN B) (fun c => if T c = true then bW B c * bG B c * bG B c else 0) := sN_cut h16 fun c h => if_neg fun q => by have := hT c q; omega
  obtain ⟨hs7, hs4, hs8⟩ := near_s ho
  have cu := cost_0 (w := bW B) (g := bG B) hp
  have cu' : ((qT (bW B) (bG B) T : Int) * (wT (bW B) T : Int) - (gT (bW B) (bG B) T : Int) * (gT (bW B) (bG B) T : Int)) ≤ 235929600 := by
    have h1 : qT (bW B) (bG B) T * wT (bW B) T ≤ 3686400 * 64 := Nat.mul_le_mul bQ' bW'
    have h2 : ((qT (bW B) (bG B) T : Int) * (wT (bW B) T : Int)) = ((qT (bW B) (bG B) T * wT (bW B) T : Nat) : Int) := (Int.natCast_mul _ _).symm
    have h3 : ((gT (bW B) (bG B) T : Int) * (gT (bW B) (bG B) T : Int)) = ((gT (bW B) (bG B) T * gT (bW B) (bG B) T : Nat) : Int) := (Int.natCast_mul _ _).symm
    rw [h2, h3]; omega
  have hMl : lcmL (wT (bW B) T :: L) ≤ 2300000 := lcm_64 (fun a ha => by
    rcases List.mem_cons.mp ha with rfl | ha
    · exact ⟨hp, bW'⟩
    · exact hL a ha) (by show wT (bW B) T + sumL L ≤ 64; omega)
  obtain ⟨a1, a2, a3, a4⟩ := add_ok hL hMl (Nat.le_refl _) ⟨hp, bW'⟩ hden h0 h1 cu cu'
  generalize hu : ((qT (bW B) (bG B) T : Int) * (wT (bW B) T : Int) - (gT (bW B) (bG B) T : Int) * (gT (bW B) (bG B) T : Int)) = u at k cu cu' a3 a4
  refine K70 (B70_0 hs7 (bk_s hr) ?_)
  refine loopN (P := fun i => G Θ (d + 3) 70 11 [some (.ref o), some (.ref r), some (.int (sX T)), some (.long (jJ (sN i (fun c => if T c = true then bW B c else 0) : Nat))), none, some (.long (jJ (sN i (fun c => if T c = true then bW B c * bG B c else 0) : Nat))), none, some (.long (jJ (sN i (fun c => if T c = true then bW B c * bG B c * bG B c else 0) : Nat))), none, some (.int (nI i))] [] σ Q) (bN B) ?_ ?_
  · refine B70_11 hs7 (bk_s hr) ⟨fun _ => ?_, fun h => absurd (by rw [hn]; exact nI_le (Nat.le_refl _) (by omega)) h⟩
    rw [← eW, ← eG, ← eQ]
    show Cv Θ (d + 2) 47 [.ref (o + 8), .long (jJ (gT (bW B) (bG B) T : Nat)), .long (jJ (wT (bW B) T : Nat))] σ (fun σ2 => G Θ (d + 3) 70 109 [some (.ref o), some (.ref r), some (.int (sX T)), some (.long (jJ (wT (bW B) T : Nat))), none, some (.long (jJ (gT (bW B) (bG B) T : Nat))), none, some (.long (jJ (qT (bW B) (bG B) T : Nat))), none, some (.int 0)] [] σ2 Q)
    refine c47 hs8 (by omega) (by omega) hp (by omega) ⟨rfl, ?_⟩
    have f8 : Fr [o + 8] σ (frW σ (o + 8) 0 1 (mkRat (gT (bW B) (bG B) T : Nat) (wT (bW B) T))) := (Fr.rfl.L (by simp)).L (by simp)
    have m0 : (frW σ (o + 8) 0 1 (mkRat (gT (bW B) (bG B) T : Nat) (wT (bW B) T))).2.1 (o + 8) 0 = jJ (mT (bW B) (bG B) T).num := by
      rw [frW, sL_of _ _ (by omega), sL_at]; rfl
    have m1 : (frW σ (o + 8) 0 1 (mkRat (gT (bW B) (bG B) T : Nat) (wT (bW B) T))).2.1 (o + 8) 1 = jJ ((mT (bW B) (bG B) T).den : Nat) := by
      rw [frW, sL_at]; rfl
    generalize frW σ (o + 8) 0 1 (mkRat (gT (bW B) (bG B) T : Nat) (wT (bW B) T)) = s0 at f8 m0 m1
    refine loopS (α := Mem) (I := fun i s => Fr [o + 1, o + 2, o + 3] s0 s ∧ (∀ c, c < i → T c = true → s.1 (o + 1) c = sX T ∧ s.2.1 (o + 2) c = jJ (mT (bW B) (bG B) T).num ∧ s.2.1 (o + 3) c = jJ ((mT (bW B) (bG B) T).den : Nat)) ∧ ∀ c, T c = false → s.1 (o + 1) c = s0.1 (o + 1) c ∧ s.2.1 (o + 2) c = s0.2.1 (o + 2) c ∧ s.2.1 (o + 3) c = s0.2.1 (o + 3) c)
      (P := fun i s => G Θ (d + 3) 70 109 [some (.ref o), some (.ref r), some (.int (sX T)), some (.long (jJ (wT (bW B) T : Nat))), none, some (.long (jJ (gT (bW B) (bG B) T : Nat))), none, some (.long (jJ (qT (bW B) (bG B) T : Nat))), none, some (.int (nI i))] [] s Q) (bN B) ?_ ?_ s0 ⟨Fr.rfl, fun c h => absurd h (Nat.not_lt_zero _), fun c _ => ⟨rfl, rfl, rfl⟩⟩
    · intro s ⟨hf, hs, hs'⟩
      have hf2 : Fr [o + 1, o + 2, o + 3, o + 8] σ s := (f8.mono (by simp)).tr (hf.mono (by simp))
      have hn' : s.1 r 4 = nI (bN B) := by rw [(hf2 r (by simp; omega)).1]; exact hn
      refine B70_109 hs7 (bk_s hr) ⟨fun _ => ?_, fun h => absurd (by rw [hn']; exact nI_le (Nat.le_refl _) (by omega)) h⟩
      rw [jJ_mul, jJ_mul, jJ_sub]
      rw [hu]
      have t4 := (hf2 (o + 4) (by simp)).2.1
      refine c48 hs4 (r := rr) ⟨by rw [t4]; exact htot.1, by rw [t4]; exact htot.2⟩ a1 hp a2 a3 a4 ⟨rfl, ?_⟩
      have fw : Fr [o + 4] s (frW s (o + 4) 0 1 (rr + mkRat u (wT (bW B) T))) := (Fr.rfl.L (by simp)).L (by simp)
      refine k _ ((hf2.mono (by simp)).tr (fw.mono (by simp))) (fun c hTc => ?_) (fun c hTc => ?_) ⟨by rw [frW, sL_of _ _ (by omega), sL_at], by rw [frW, sL_at]⟩
      · rw [(fw (o + 1) (by simp)).1, (fw (o + 2) (by simp)).2.1, (fw (o + 3) (by simp)).2.1]
        exact hs c (hT c hTc) hTc
      · rw [(fw (o + 1) (by simp)).1, (fw (o + 2) (by simp)).2.1, (fw (o + 3) (by simp)).2.1]
        have := hs' c hTc
        rw [this.1, this.2.1, this.2.2, (f8 (o + 1) (by simp)).1, (f8 (o + 2) (by simp)).2.1, (f8 (o + 3) (by simp)).2.1]
        exact ⟨rfl, rfl, rfl⟩
    · intro i s hi ⟨hf, hs, hs'⟩ ih
      have hf2 : Fr [o + 1, o + 2, o + 3, o + 8] σ s := (f8.mono (by simp)).tr (hf.mono (by simp))
      have hn' : s.1 r 4 = nI (bN B) := by rw [(hf2 r (by simp; omega)).1]; exact hn
      have v := vp_in_nI (show i < 16 by omega) (by decide)
      refine B70_109 hs7 (bk_s hr) ⟨fun h => absurd h (by rw [hn']; exact nI_ge hi (by omega)), fun _ => ?_⟩
      rw [sX_shr _ (by omega), nI_1, nI_clamp (by omega)]
      refine ⟨fun h => ?_, fun h => ⟨v, v, v, ?_⟩⟩
      · rw [b01_0] at h
        refine ih s ⟨hf, fun c hc' hTc => ?_, hs'⟩
        by_cases z : c = i
        · rw [z, h] at hTc; cases hTc
        · exact hs c (by omega) hTc
      · rw [b01_n] at h
        have e8 := hf (o + 8) (by simp)
        have x1 : (sI s (o + 1) i (sX T)).2.1 (o + 8) 0 = jJ (mT (bW B) (bG B) T).num := by rw [sI_L, e8.2.1]; exact m0
        have x2 : (sL (sI s (o + 1) i (sX T)) (o + 2) i (jJ (mT (bW B) (bG B) T).num)).2.1 (o + 8) 1 = jJ ((mT (bW B) (bG B) T).den : Nat) := by rw [sL_of _ _ (by omega), sI_L, e8.2.1]; exact m1
        rw [x1, x2]
        refine ih _ ⟨((hf.I (by simp)).L (by simp)).L (by simp), fun c hc' hTc => ⟨?_, ?_, ?_⟩, fun c hTc => ⟨?_, ?_, ?_⟩⟩
        · rw [sL_I, sL_I]
          by_cases z : c = i
          · rw [z, sI_at]
          · rw [sI_of _ _ (by omega)]; exact (hs c (by omega) hTc).1
        · rw [sL_of _ _ (by omega)]
          by_cases z : c = i
          · rw [z, sL_at]
          · rw [sL_of _ _ (by omega), sI_L]; exact (hs c (by omega) hTc).2.1
        · by_cases z : c = i
          · rw [z, sL_at]
          · rw [sL_of _ _ (by omega), sL_of _ _ (by omega), sI_L]; exact (hs c (by omega) hTc).2.2
        · have z : c ≠ i := fun q => by rw [q, h] at hTc; cases hTc
          rw [sL_I, sL_I, sI_of _ _ (by omega)]; exact (hs' c hTc).1
        · have z : c ≠ i := fun q => by rw [q, h] at hTc; cases hTc
          rw [sL_of _ _ (by omega), sL_of _ _ (by omega), sI_L]; exact (hs' c hTc).2.1
        · have z : c ≠ i := fun q => by rw [q, h] at hTc; cases hTc
          rw [sL_of _ _ (by omega), sL_of _ _ (by omega), sI_L]; exact (hs' c hTc).2.2
  · intro i hi ih
    have v := vp_in_nI (show i < 16 by omega) (by decide)
    refine B70_11 hs7 (bk_s hr) ⟨fun h => absurd h (by rw [hn]; exact nI_ge hi (by omega)), fun _ => ?_⟩
    rw [sX_shr _ (by omega), nI_1, nI_clamp (by omega)]
    have s1 : sN (i + 1) (fun c => if T c = true then bW B c else 0) = sN i (fun c => if T c = true then bW B c else 0) + (if T i = true then bW B i else 0) := rfl
    have s2 : sN (i + 1) (fun c => if T c = true then bW B c * bG B c else 0) = sN i (fun c => if T c = true then bW B c * bG B c else 0) + (if T i = true then bW B i * bG B i else 0) := rfl
    have s3 : sN (i + 1) (fun c => if T c = true then bW B c * bG B c * bG B c else 0) = sN i (fun c => if T c = true then bW B c * bG B c * bG B c else 0) + (if T i = true then bW B i * bG B i * bG B i else 0) := rfl
    rw [s1, s2, s3] at ih
    refine ⟨fun h => ?_, fun h => ⟨v, v, v, v, v, v, ?_⟩⟩
    · rw [b01_0] at h
      rw [h] at ih; exact ih
    · rw [b01_n] at h
      have b1 := hw4 i hi
      have b2 := hg2 i hi
      have b3 : bW B i * bG B i ≤ 4 * 240 := Nat.mul_le_mul b1 b2
      have b4 : bW B i * bG B i * bG B i ≤ 4 * 240 * 240 := Nat.mul_le_mul b3 b2
      rw [(hc i hi).1.1, (hc i hi).2.1, pk_mul, pk_mul, nI_j (by omega), nI_j (by omega), nI_j (by omega), jJ_add, jJ_add, jJ_add]
      rw [h] at ih; exact ih
end blk
