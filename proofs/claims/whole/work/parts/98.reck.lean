/-! CONTRACTS: the class's runs, whole -/
theorem btq_one {q : Nat → Nat} {G : Nat → Nat → Rat} {k j : Nat} {γ γ' : Rat} {β β' : Nat} (h : Btq q G k j γ β) (h' : Btq q G k j γ' β') : γ = γ' ∧ β = β' := by
  have h1 := h.2 γ' β' h'.1
  have h2 := h'.2 γ β h.1
  have e := Rat.le_antisymm h1.1 h2.1
  have := h1.2 e
  have := h2.2 e.symm
  exact ⟨e.symm, by omega⟩
theorem sgR_pos {a b : Rat} : 0 < sgR a b ↔ b < a := by
  unfold sgR
  by_cases h1 : a < b
  · rw [if_pos h1]; exact ⟨fun h => absurd h (by decide), fun h => by grind⟩
  · rw [if_neg h1]
    by_cases h2 : a = b
    · rw [if_pos h2, h2]; exact ⟨fun h => absurd h (by decide), fun h => absurd h Rat.lt_irrefl⟩
    · rw [if_neg h2]; exact ⟨fun _ => by grind, fun _ => by decide⟩
theorem sgR_zero {a b : Rat} : sgR a b = 0 ↔ a = b := by
  unfold sgR
  by_cases h1 : a < b
  · rw [if_pos h1]; exact ⟨fun h => absurd h (by decide), fun h => by rw [h] at h1; exact absurd h1 Rat.lt_irrefl⟩
  · rw [if_neg h1]
    by_cases h2 : a = b
    · rw [if_pos h2]; exact ⟨fun _ => h2, fun _ => rfl⟩
    · rw [if_neg h2]; exact ⟨fun h => absurd h (by decide), fun h => absurd h h2⟩
theorem sgR_b (a b : Rat) : -1 ≤ sgR a b ∧ sgR a b ≤ 1 := by unfold sgR; split <;> (try split) <;> omega
section reck
variable {Θ : Th} {d : Nat} {σ : Mem} {Q : Po} {w g st : Nat → Nat} {T : Nat → Bool} {p : Nat} {q : Nat → Nat}
theorem c97 {c j : Nat} (hP : Pav w g T st q p) (hR : PoR w g T st p q) (hb : Bnd w g T) (hC : PoC w g T st p q σ) (hq13 : q p ≤ 12) (h12 : p ≤ 12) (hcj : c + 2 ≤ j) (hj : j ≤ p) (hprev : ∀ i, c + 1 ≤ i → i < j → Dp w g T st q c i σ)
    (K : ∀ σ', Fr [119, 120, 121, 122] σ σ' → (∀ a, a ≠ 13 * (c + 2) + j → σ'.2.1 119 a = σ.2.1 119 a ∧ σ'.2.1 120 a = σ.2.1 120 a ∧ σ'.1 121 a = σ.1 121 a) → Dp w g T st q (c + 1) j σ' → Q none σ') : Cm Θ (d + 4) 97 [.ref 114, .int (nI (c + 2)), .int (nI j)] σ Q := by
  have hinc : ∀ j, j < p → q j < q (j + 1) := fun j hj => (hP.2 j hj).1
  have hqq : ∀ i j, i < j → j ≤ p → q i < q j := fun i j hij hj => Nat.lt_of_lt_of_le (hinc i (by omega)) (r_mono hinc hij hj)
  obtain ⟨AT, hAT⟩ : ∃ AT, AT = 13 * (c + 2) + j := ⟨_, rfl⟩
  have at169 : AT < 169 := by omega
  have e13 : ∀ x y : Nat, nI x * 13 + nI y = nI (13 * x + y) := fun x y => by rw [show (13 : Int32) = nI 13 from rfl, pk_mul, nI_add, Nat.mul_comm]
  have e1 : nI (c + 2) - 1 = nI (c + 1) := nI_pred (c + 1)
  refine K97 (B97_0 ?_)
  rw [e13, e1, ← hAT]
  have start := loopS (α := Mem) (I := fun m s => Fr [119, 120, 121, 122] σ s ∧ (∀ a, a ≠ AT → s.2.1 119 a = σ.2.1 119 a ∧ s.2.1 120 a = σ.2.1 120 a ∧ s.1 121 a = σ.1 121 a) ∧ (m = 0 ∨ ∃ γ β, Ent AT γ β s ∧ Ct q (gq (pW w T st q) (pS w g T st q)) (c + 1) j γ β ∧ β ≤ 2 ^ q (c + 1 + m) ∧ ∀ i', c + 1 ≤ i' → i' < c + 1 + m → ∀ γ' β', Btq q (gq (pW w T st q) (pS w g T st q)) c i' γ' β' → γ' + gq (pW w T st q) (pS w g T st q) i' j ≤ γ ∧ (γ' + gq (pW w T st q) (pS w g T st q) i' j = γ → β ≤ β' + 2 ^ q i')))
    (P := fun m s => G Θ (d + 4) 97 12 [some (.ref 114), some (.int (nI (c + 2))), some (.int (nI j)), some (.int (nI AT)), some (.int (nI (c + 1 + m))), none] [] s Q) (j - (c + 1)) ?_ ?_ σ ⟨Fr.rfl, fun a _ => ⟨rfl, rfl, rfl⟩, Or.inl rfl⟩
  · exact start
  · intro s ⟨hf, hs, hI⟩
    rw [show c + 1 + (j - (c + 1)) = j by omega]
    refine B97_12 ⟨fun _ => ?_, fun h => absurd (nI_le (Nat.le_refl _) (by omega)) h⟩
    rcases hI with z | ⟨γ, β, h1, h2, -, h3⟩
    · omega
    · refine K s hf (fun a ha => hs a (by rw [hAT]; exact ha)) ⟨γ, β, btq_step h2 fun i hi1 hi2 => ?_, by rw [show 13 * (c + 1 + 1) + j = AT by omega]; exact h1⟩
      obtain ⟨γi, βi, a1, a2⟩ := hprev i hi1 hi2
      exact ⟨γi, βi, a1, h3 i hi1 (by omega) γi βi a1⟩
  · intro m s hm ⟨hf, hs, hI⟩ ih
    obtain ⟨i, hi⟩ : ∃ i, i = c + 1 + m := ⟨_, rfl⟩
    rw [← hi]
    rw [show c + 1 + (m + 1) = i + 1 by omega] at ih
    have hij : i < j := by omega
    obtain ⟨AH, hAH⟩ : ∃ AH, AH = 13 * (c + 1) + i := ⟨_, rfl⟩
    have hne : AH ≠ AT := by omega
    obtain ⟨γ0, β0, hB0, hE0⟩ := hprev i (by omega) hij
    have hb0 := (ct_bits hqq c i γ0 β0 (by omega) hB0.1).2
    have vAH := vp_in_nI (show AH < 169 by omega) (by decide)
    have vAT := vp_in_nI (show AT < 169 by omega) (by decide)
    have vi := vp_in_nI (show i < 13 by omega) (by decide)
    refine B97_12 ⟨fun h => absurd h (nI_ge hij (by omega)), fun _ => ?_⟩
    rw [e1, e13, ← hAH, nI_clamp (show AH < 2147483648 by omega), nI_clamp (show AT < 2147483648 by omega), nI_clamp (show i < 2147483648 by omega)]
    refine ⟨vAH, vAH, ?_⟩
    rw [← hAH] at hE0
    have hE1 : Ent AH γ0 β0 s := ⟨by rw [(hs AH hne).1]; exact hE0.1, by rw [(hs AH hne).2.1]; exact hE0.2.1, by rw [(hs AH hne).2.2]; exact hE0.2.2⟩
    rw [show (sL s 122 0 (s.2.1 119 AH)).2.1 120 AH = s.2.1 120 AH from sL_of _ _ (by omega), hE1.1, hE1.2.1]
    have g0 : (sL (sL s 122 0 (jJ γ0.num)) 122 1 (jJ (γ0.den : Nat))).2.1 122 0 = jJ γ0.num := by rw [sL_of _ _ (by omega), sL_at]
    have g1 : (sL (sL s 122 0 (jJ γ0.num)) 122 1 (jJ (γ0.den : Nat))).2.1 122 1 = jJ (γ0.den : Nat) := sL_at _ _ _ _
    have fs : Fr [122] s (sL (sL s 122 0 (jJ γ0.num)) 122 1 (jJ (γ0.den : Nat))) := (Fr.rfl.L (by simp)).L (by simp)
    generalize sL (sL s 122 0 (jJ γ0.num)) 122 1 (jJ (γ0.den : Nat)) = s1 at g0 g1 fs
    have hf1 : Fr [119, 120, 121, 122] σ s1 := hf.tr (fs.mono (by simp))
    obtain ⟨L, l1, l2, l3, l4, l5⟩ := ct_den hb hP hR c i γ0 β0 (by omega) hB0.1
    have fit0 := ct_fit hb hP hR (show i ≤ p by omega) hB0.1
    have bb := hb (iv T st 0 (q j)) (fun c h => (iv_iff.mp h).1)
    have ew := wT_iv (w := w) (T := T) (κ := st) (Nat.zero_le (q i)) (Nat.le_of_lt (hqq i j hij hj))
    refine c99 (d := d) (r := γ0) (L := L) hP hR hb (fun t ht => by rw [(hf1 116 (by simp)).1, (hf1 117 (by simp)).1]; exact ⟨(hC.2 t ht).1, (hC.2 t ht).2.1⟩) hij hj h12 ⟨g0, g1⟩ l1 (by omega) l3 fit0.2.1 fit0.2.2 ⟨rfl, ?_⟩
    obtain ⟨γn, hγn⟩ : ∃ γn, γn = γ0 + gq (pW w T st q) (pS w g T st q) i j := ⟨_, rfl⟩
    rw [← hγn]
    have h0 : (frW s1 122 0 1 γn).2.1 122 0 = jJ γn.num := by rw [frW, sL_of _ _ (by omega), sL_at]
    have h1 : (frW s1 122 0 1 γn).2.1 122 1 = jJ (γn.den : Nat) := by rw [frW, sL_at]
    have f2 : Fr [122] s (frW s1 122 0 1 γn) := (fs.L (by simp)).L (by simp)
    generalize frW s1 122 0 1 γn = s2 at h0 h1 f2
    have hf2 : Fr [119, 120, 121, 122] σ s2 := hf.tr (f2.mono (by simp))
    have hs2 : ∀ a, a ≠ AT → s2.2.1 119 a = σ.2.1 119 a ∧ s2.2.1 120 a = σ.2.1 120 a ∧ s2.1 121 a = σ.1 121 a := fun a ha => by
      rw [(f2 119 (by simp)).2.1, (f2 120 (by simp)).2.1, (f2 121 (by simp)).1]; exact hs a ha
    have hctn : Ct q (gq (pW w T st q) (pS w g T st q)) (c + 1) j γn (β0 + 2 ^ q i) := ⟨i, γ0, β0, by omega, hij, hB0.1, hγn, rfl⟩
    have fitn := ct_fit hb hP hR hj hctn
    have bits : (s2.1 121 AH ||| s2.1 118 i) = nI (β0 + 2 ^ q i) := by
      rw [(f2 121 (by simp)).1, hE1.2.2, (hf2 118 (by simp)).1, (hC.2 i (by omega)).2.2, if_neg (by omega), nI_or, or_pow hb0]
    have hqi : q i < q p := hqq i p (by omega) (Nat.le_refl _)
    have b13 : β0 + 2 ^ q i < 65536 := by
      have := (ct_bits hqq (c + 1) j γn _ hj hctn).2
      have h3 : 2 ^ q j ≤ 2 ^ 12 := Nat.pow_le_pow_right (by decide) (by
        rcases Nat.lt_or_ge j p with z | z
        · have := hqq j p z (Nat.le_refl _); omega
        · rw [show j = p by omega]; exact hq13)
      omega
    have up : 2 ^ q i + 2 ^ q i ≤ 2 ^ q (i + 1) := by
      have : 2 ^ (q i + 1) ≤ 2 ^ q (i + 1) := Nat.pow_le_pow_right (by decide) (hqq i (i + 1) (Nat.lt_succ_self i) (by omega))
      rw [Nat.pow_succ] at this; omega
    have bnd : β0 + 2 ^ q i ≤ 2 ^ q (i + 1) := by omega
    -- the new one is put down
    have put : (∀ i', c + 1 ≤ i' → i' < i → ∀ γ' β', Btq q (gq (pW w T st q) (pS w g T st q)) c i' γ' β' → γ' + gq (pW w T st q) (pS w g T st q) i' j ≤ γn ∧ (γ' + gq (pW w T st q) (pS w g T st q) i' j = γn → β0 + 2 ^ q i ≤ β' + 2 ^ q i')) → Cv Θ (d + 3) 98 [.ref 114, .int (nI AT), .int (nI (β0 + 2 ^ q i))] s2 (fun σ12 => G Θ (d + 4) 97 12 [some (.ref 114), some (.int (nI (c + 2))), some (.int (nI j)), some (.int (nI AT)), some (.int (nI (i + 1))), none] [] σ12 Q) := fun hall => by
      refine c98 at169 ⟨rfl, ih _ ⟨((hf2.L (by simp)).L (by simp)).I (by simp), fun a ha => ?_, Or.inr ⟨γn, β0 + 2 ^ q i, ent_put ⟨h0, h1⟩, hctn, bnd, fun i' a1 a2 γ' β' hB' => ?_⟩⟩⟩
      · rw [sI_L, sL_of _ _ (by omega), sL_of _ _ (by omega), sL_of _ _ (by omega), sL_of _ _ (by omega), sI_of _ _ (by omega), sL_I, sL_I]
        exact hs2 a ha
      · rcases Nat.lt_or_ge i' i with z | z
        · exact hall i' a1 z γ' β' hB'
        · have : i' = i := by omega
          subst this
          obtain ⟨x1, x2⟩ := btq_one hB0 hB'
          rw [← x1, ← x2, ← hγn]; exact ⟨Rat.le_refl, fun _ => Nat.le_refl _⟩
    rw [nI_1] at *
    refine ⟨fun heq => ?_, fun hne1 => ⟨vAT, vAT, ?_⟩⟩
    · have hi1 : i = c + 1 := by
        rcases Nat.lt_or_ge (c + 1) i with z | z
        · rw [nI_eq (by omega) (by omega)] at heq; exact heq
        · omega
      refine ⟨vAH, vi, ?_⟩
      rw [bits]
      exact put fun i' a1 a2 => by omega
    · rcases hI with z | ⟨γ, β, h3, h4, h6, h5⟩
      · exfalso; refine hne1 ?_; rw [show i = c + 1 by omega]
      · have hE2 : Ent AT γ β s2 := Ent_fr h3 f2 (by decide)
        have fit1 := ct_fit hb hP hR hj h4
        rw [← hi] at h6
        rw [h0, h1, hE2.1, hE2.2.1]
        refine ci (fun _ => c51r (d := d + 2) fitn.2.1 fit1.2.1 fitn.1 fit1.1 fitn.2.2 fit1.2.2) ?_
        have sb := sgR_b γn γ
        have keep : ¬ γ < γn → G Θ (d + 4) 97 12 [some (.ref 114), some (.int (nI (c + 2))), some (.int (nI j)), some (.int (nI AT)), some (.int (nI (i + 1))), none] [] s2 Q := fun hk => by
          refine ih s2 ⟨hf2, hs2, Or.inr ⟨γ, β, hE2, h4, by omega, fun i' a1 a2 γ' β' hB' => ?_⟩⟩
          rcases Nat.lt_or_ge i' i with z | z
          · exact h5 i' a1 (by omega) γ' β' hB'
          · have : i' = i := by omega
            subst this
            obtain ⟨x1, x2⟩ := btq_one hB0 hB'
            rw [← x1, ← x2, ← hγn]
            exact ⟨by grind, fun _ => Nat.le_trans h6 (Nat.le_add_left _ _)⟩
        show (iI (sgR γn γ) ≤ 0 → _) ∧ (¬ iI (sgR γn γ) ≤ 0 → _)
        have hz : iI (sgR γn γ) ≤ 0 ↔ ¬ γ < γn := by
          rw [← Int32.not_lt, show (0 : Int32) = iI 0 from rfl, iI_lt (by omega) (by omega) (by omega) (by omega), sgR_pos]
        rw [bits, hz]
        refine ⟨keep, fun z => ⟨vAH, vi, put fun i' a1 a2 γ' β' hB' => ?_⟩⟩
        have := h5 i' a1 (by omega) γ' β' hB'
        have z := Classical.not_not.mp z
        exact ⟨by grind, fun e => by grind⟩
theorem runopt_0 {to most : Nat} (hT : ∀ c, c < 16 → T c = false) (hm : 1 ≤ most) : RunOpt w g T st to most 0 0 := by
  have z : ∀ F : Nat → Rat, sT 16 T F = 0 := fun F => by rw [sT, sQ_congr 16 (g := fun _ => 0) (fun c hc => by rw [hT c hc]; simp), sQ_zero]
  refine ⟨⟨Nat.two_pow_pos _, tb0 0, by rw [pc_0]; omega⟩, ⟨fun _ => 0, VI_none hT, (z _).symm⟩, fun A r' _ _ _ ⟨f, _, hr⟩ => ?_⟩
  rw [z] at hr
  refine ⟨by rw [hr]; exact Rat.le_refl, fun _ => ?_⟩
  rw [pc_0]
  rcases Nat.eq_zero_or_pos (pc 16 A) with y | y
  · exact Or.inr ⟨y.symm, Nat.zero_le _⟩
  · exact Or.inl y
theorem c92 {r lv m most : Nat} {B : Bk} (hB : BkC r lv B σ) (hk : BkOk lv B) (hm : m < bM B) (h1 : 1 ≤ most) (h2 : most ≤ 12)
    (K : ∀ σ' v β, Fr [114, 115, 116, 117, 118, 119, 120, 121, 122] σ σ' → RunOpt (bW B) (bG B) (fun c => decide (c < bN B)) (fun c => bS B c m) (bTp B m) most v β → (σ'.2.1 115 0 = jJ v.num ∧ σ'.2.1 115 1 = jJ (v.den : Nat)) → σ'.1 114 1 = nI β → β < 65536 → Q none σ') :
    Cm Θ (d + 5) 92 [.ref 114, .ref r, .int (nI m), .int (nI most)] σ Q := by
  obtain ⟨km, ⟨kn, klv⟩, ktp, -, kc, -⟩ := id hk
  let LS : List Nat := [114, 115, 116, 117, 118, 119, 120, 121, 122]
  have hLS : LS = [114, 115, 116, 117, 118, 119, 120, 121, 122] := rfl
  refine K92 (B92_0 (bk_s hB.1) ?_)
  refine c94 (d := d + 3) hB hk hm fun σ1 p q f1 hC hM hR hb => ⟨rfl, ?_⟩
  have hB1 := BkC_fr hB f1 (by intro x h1 h2; simp; omega)
  refine cl (fun _ => c93 hB1 hk) ?_
  have bq := (hb (fun c => decide (c < bN B)) (fun _ h => h)).2.2
  obtain ⟨Qt, hQt⟩ : ∃ Qt, Qt = qT (bW B) (bG B) (fun c => decide (c < bN B)) := ⟨_, rfl⟩
  have z1 : (1 : Int64) = jJ ((1 : Nat) : Int) := rfl
  show Cv Θ (d + 4) 47 [.ref 115, .long (jJ (qT (bW B) (bG B) (fun c => decide (c < bN B)) : Nat)), .long 1] σ1 _
  rw [z1, hC.1, nI_min (by omega) (by have := hM.2.2.2.2; omega), ← hQt]
  have em : mkRat (Qt : Nat) 1 = ((Qt : Nat) : Rat) := by
    have := Rat.mkRat_self ((Qt : Nat) : Rat)
    rw [Rat.num_natCast, Rat.den_natCast] at this; exact this
  refine c47 rfl (by omega) (by omega) (by decide) (by decide) ⟨rfl, ?_⟩
  rw [em]
  have fw : Fr [115] σ1 (frW σ1 115 0 1 ((Qt : Nat) : Rat)) := (Fr.rfl.L (by simp)).L (by simp)
  have t0 : (frW σ1 115 0 1 ((Qt : Nat) : Rat)).2.1 115 0 = jJ (((Qt : Nat) : Rat)).num := by rw [frW, sL_of _ _ (by omega), sL_at]
  have t1 : (frW σ1 115 0 1 ((Qt : Nat) : Rat)).2.1 115 1 = jJ ((((Qt : Nat) : Rat)).den : Nat) := by rw [frW, sL_at]
  generalize frW σ1 115 0 1 ((Qt : Nat) : Rat) = σ3 at fw t0 t1
  have f3 : Fr LS σ (sI σ3 114 1 0) := ((f1.mono (by rw [hLS]; intro j hj; simp at hj ⊢; omega)).tr (fw.mono (by rw [hLS]; simp))).I (by rw [hLS]; simp)
  have x0 : (sI σ3 114 1 0).2.1 115 0 = jJ (((Qt : Nat) : Rat)).num := t0
  have x1 : (sI σ3 114 1 0).2.1 115 1 = jJ ((((Qt : Nat) : Rat)).den : Nat) := t1
  have x2 : (sI σ3 114 1 0).1 114 1 = nI 0 := sI_at _ _ _ _
  have hC3 : PoC (bW B) (bG B) (fun c => decide (c < bN B)) (fun c => bS B c m) p q (sI σ3 114 1 0) := by
    refine ⟨?_, fun j hj => ?_⟩
    · rw [sI_of _ _ (by omega), (fw 114 (by simp)).1]; exact hC.1
    · rw [sI_ne (by omega), sI_ne (by omega), sI_ne (by omega), (fw 116 (by simp)).1, (fw 117 (by simp)).1, (fw 118 (by simp)).1]
      exact hC.2 j hj
  obtain ⟨σ4, h4⟩ : ∃ s, s = sI σ3 114 1 0 := ⟨_, rfl⟩
  rw [← h4] at f3 x0 x1 x2 hC3
  have hst : ∀ c, c < bN B → bS B c m ≤ bTp B m := fun c hc => (kc c (by omega)).2.2.2.2.2 m hm
  have htp := (ktp m hm).2
  have hp12 : p ≤ 12 := hM.2.2.2.2
  have hcov : ∀ c, decide (c < bN B) = true → bS B c m < q p := fun c hc => hM.2.2.1 c hc (show bS B c m < 12 by have := hst c (of_decide_eq_true hc); omega)
  refine ⟨fun hne => ?_, fun he => ?_⟩
  · have hp1 : 1 ≤ min most p := by
      rcases Nat.eq_zero_or_pos (min most p) with z | z
      · rw [z] at hne; exact absurd nI_0 hne
      · exact z
    have hp0 : 0 < p := by omega
    obtain ⟨N, hN⟩ : ∃ N, min most p = N + 1 := ⟨min most p - 1, by omega⟩
    rw [hN]
    rw [← h4]
    refine c96 (d := d) hM.1 hR hb hC3 hp12 fun σ5 f5 hD5 => ⟨rfl, ?_⟩
    have f5' : Fr LS σ σ5 := f3.tr (f5.mono (by rw [hLS]; intro j hj; simp at hj ⊢; omega))
    have start := loopS (α := Mem) (I := fun kk s => Fr [119, 120, 121, 122] σ4 s ∧ ∀ c, c < kk + 1 → ∀ j, c + 1 ≤ j → j ≤ p → Dp (bW B) (bG B) (fun c => decide (c < bN B)) (fun c => bS B c m) q c j s) (P := fun kk s => G Θ (d + 5) 92 46 [some (.ref 114), none, none, none, some (.int (nI (N + 1))), some (.int (nI (kk + 2))), none] [] s Q) N ?_ ?_ σ5 ⟨f5, fun c hc j h1 h2 => by rw [show c = 0 by omega]; exact hD5 j (by omega) h2⟩
    · exact start
    · intro s ⟨hf, hs⟩
      have hCs : s.1 114 2 = nI p := by rw [(hf 114 (by simp)).1]; exact hC3.1
      obtain ⟨γ, β, hBt, hE⟩ := hs N (by omega) p (by omega) (Nat.le_refl _)
      have fit := ct_fit hb hM.1 hR (Nat.le_refl p) hBt.1
      refine B92_46 ⟨fun _ => ?_, fun h => absurd (nI_lt (by omega) (by omega)) h⟩
      have e13 : nI (N + 1) * 13 + s.1 114 2 = nI (13 * (N + 1) + p) := by rw [hCs, show (13 : Int32) = nI 13 from rfl, pk_mul, nI_add, Nat.mul_comm]
      rw [e13]
      have v := vp_in_nI (show 13 * (N + 1) + p < 169 by omega) (by decide)
      refine ⟨v, v, ?_⟩
      rw [nI_clamp (by omega), hE.1, hE.2.1, jJ_neg]
      obtain ⟨n1, n2⟩ := rat_num fit.2.1 fit.1 fit.2.2
      have dQ : ((Qt : Nat) : Rat).den = 1 := Rat.den_natCast _
      have nQ : ((Qt : Nat) : Rat).num = (Qt : Int) := Rat.num_natCast _
      have hl : Qt * γ.den ≤ 3686400 * 2300000 := Nat.mul_le_mul (by omega) fit.1
      have hgcd : Nat.gcd 1 γ.den = 1 := Nat.gcd_one_left _
      have s0 : s.2.1 115 0 = jJ (((Qt : Nat) : Rat)).num := by rw [(hf 115 (by simp)).2.1]; exact x0
      have s1 : s.2.1 115 1 = jJ ((((Qt : Nat) : Rat)).den : Nat) := by rw [(hf 115 (by simp)).2.1]; exact x1
      have ex : ((Qt : Nat) : Rat).num * ((γ.den / Nat.gcd ((Qt : Nat) : Rat).den γ.den : Nat) : Int) + (-γ.num) * ((((Qt : Nat) : Rat).den / Nat.gcd ((Qt : Nat) : Rat).den γ.den : Nat) : Int) = ((Qt * γ.den : Nat) : Int) - ((γ.num.toNat : Nat) : Int) := by
        rw [dQ, nQ, hgcd, Nat.div_one, Nat.div_one, Int.natCast_mul, ← n1]
        show (Qt : Int) * (γ.den : Int) + (-γ.num) * 1 = _
        omega
      refine c48 rfl (r := ((Qt : Nat) : Rat)) ⟨s0, s1⟩ (by rw [dQ]; decide) γ.den_pos (by rw [dQ, Nat.lcm_one_left]; have := fit.1; omega) (by rw [ex]; omega) (by rw [ex]; omega) ⟨rfl, v, ?_⟩
      have eneg : ((Qt : Nat) : Rat) + mkRat (-γ.num) γ.den = ((Qt : Nat) : Rat) - γ := by
        have := Rat.mkRat_self (-γ)
        rw [Rat.neg_num, Rat.neg_den] at this
        rw [this]; grind
      rw [eneg]
      have fw2 : Fr [115] s (frW s 115 0 1 (((Qt : Nat) : Rat) - γ)) := (Fr.rfl.L (by simp)).L (by simp)
      have y0 : (frW s 115 0 1 (((Qt : Nat) : Rat) - γ)).2.1 115 0 = jJ (((Qt : Nat) : Rat) - γ).num := by rw [frW, sL_of _ _ (by omega), sL_at]
      have y1 : (frW s 115 0 1 (((Qt : Nat) : Rat) - γ)).2.1 115 1 = jJ ((((Qt : Nat) : Rat) - γ).den : Nat) := by rw [frW, sL_at]
      rw [show (frW s 115 0 1 (((Qt : Nat) : Rat) - γ)).1 121 (13 * (N + 1) + p) = nI β from hE.2.2]
      have ho := class_opt (to := bTp B m) (most := most) (k := N) hM.1 hR (fun c _ hc => hcov c hc) (fun c hc hT => (kc c (by have := of_decide_eq_true hT; omega)).2.2.2.1) (fun c _ hT => hst c (of_decide_eq_true hT)) htp hM.2.1 hp0 hN.symm hBt
      rw [← hQt] at ho
      refine K _ _ β ((f3.tr (hf.mono (by rw [hLS]; intro j hj; simp at hj ⊢; omega))).tr (fw2.mono (by rw [hLS]; simp)) |>.I (by rw [hLS]; simp)) ho ⟨y0, y1⟩ (sI_at _ _ _ _) ?_
      have := ho.1.1
      have h3 : 2 ^ (bTp B m + 1) ≤ 2 ^ 12 := Nat.pow_le_pow_right (by decide) (by omega)
      omega
    · intro kk s hkk ⟨hf, hs⟩ ih
      have hCs : s.1 114 2 = nI p := by rw [(hf 114 (by simp)).1]; exact hC3.1
      refine B92_46 ⟨fun h => absurd h (nI_nlt (by omega) (by omega)), fun _ => ?_⟩
      have start2 := loopS (α := Mem) (I := fun mm t => Fr [119, 120, 121, 122] σ4 t ∧ (∀ c, c < kk + 1 → ∀ j, c + 1 ≤ j → j ≤ p → Dp (bW B) (bG B) (fun c => decide (c < bN B)) (fun c => bS B c m) q c j t) ∧ ∀ j, kk + 2 ≤ j → j < kk + 2 + mm → Dp (bW B) (bG B) (fun c => decide (c < bN B)) (fun c => bS B c m) q (kk + 1) j t) (P := fun mm t => G Θ (d + 5) 92 57 [some (.ref 114), none, none, none, some (.int (nI (N + 1))), some (.int (nI (kk + 2))), some (.int (nI (kk + 2 + mm)))] [] t Q) (p - (kk + 1)) ?_ ?_ s ⟨hf, hs, fun j h1 h2 => by omega⟩
      · exact start2
      · intro t ⟨g1, g2, g3⟩
        have hCt : t.1 114 2 = nI p := by rw [(g1 114 (by simp)).1]; exact hC3.1
        refine B92_57 ⟨fun _ => ?_, fun h => absurd (by rw [hCt]; exact nI_lt (by omega) (by omega)) h⟩
        rw [nI_1]
        refine ih t ⟨g1, fun c hc j h1 h2 => ?_⟩
        rcases Nat.lt_or_ge c (kk + 1) with z | z
        · exact g2 c z j h1 h2
        · have : c = kk + 1 := by omega
          subst this; exact g3 j h1 (by omega)
      · intro mm t hmm ⟨g1, g2, g3⟩ ih2
        have hCt : t.1 114 2 = nI p := by rw [(g1 114 (by simp)).1]; exact hC3.1
        have hCt2 : PoC (bW B) (bG B) (fun c => decide (c < bN B)) (fun c => bS B c m) p q t := ⟨hCt, fun j hj => by
          rw [(g1 116 (by simp)).1, (g1 117 (by simp)).1, (g1 118 (by simp)).1]; exact hC3.2 j hj⟩
        refine B92_57 ⟨fun h => absurd h (by rw [hCt]; exact nI_nlt (by omega) (by omega)), fun _ => ?_⟩
        refine c97 (d := d) (c := kk) (j := kk + 2 + mm) hM.1 hR hb hCt2 hM.2.2.2.1 hp12 (by omega) (by omega) (fun i a1 a2 => g2 kk (by omega) i a1 (by omega)) fun u f6 o6 hD6 => ⟨rfl, ?_⟩
        rw [nI_1]
        have other : ∀ c j, 13 * (c + 1) + j ≠ 13 * (kk + 2) + (kk + 2 + mm) → Dp (bW B) (bG B) (fun c => decide (c < bN B)) (fun c => bS B c m) q c j t → Dp (bW B) (bG B) (fun c => decide (c < bN B)) (fun c => bS B c m) q c j u := fun c j hne ⟨γ, β, b1, b2⟩ => by
          have := o6 _ hne
          exact ⟨γ, β, b1, by rw [this.1]; exact b2.1, by rw [this.2.1]; exact b2.2.1, by rw [this.2.2]; exact b2.2.2⟩
        refine ih2 u ⟨g1.tr f6, fun c hc j h1 h2 => other c j (by omega) (g2 c hc j h1 h2), fun j h1 h2 => ?_⟩
        rcases Nat.lt_or_ge j (kk + 2 + mm) with z | z
        · exact other (kk + 1) j (by omega) (g3 j h1 z)
        · have : j = kk + 2 + mm := by omega
          subst this; exact hD6
  · have hp0 : p = 0 := by
      rcases Nat.eq_zero_or_pos p with z | z
      · exact z
      · exact absurd he (nI_ne0 (by omega) (by omega))
    subst hp0
    have hno : ∀ c, c < 16 → decide (c < bN B) = false := fun c _ => by
      cases z : decide (c < bN B)
      · rfl
      · have := hcov c z; rw [hM.1.1] at this; omega
    have hq0 : Qt = 0 := by
      rw [hQt]
      show sN 16 _ = 0
      rw [sN_congr 16 (g := fun _ => 0) (fun c hc => if_neg (by show ¬ decide (c < bN B) = true; rw [hno c hc]; decide))]; rfl
    rw [hq0] at x0 x1
    rw [← h4]
    exact K σ4 0 0 f3 (runopt_0 hno h1) ⟨x0, x1⟩ x2 (by decide)
end reck
