/-! CONTRACTS: the reference's fit by squares. Ft: what stays but the cells of these labels and the fraction's two longs -/
def Ft (ls : List Nat) (σ σ' : Mem) : Prop :=
  (∀ j, j ∉ ls → j ≠ 124 → σ'.1 j = σ.1 j ∧ σ'.2.1 j = σ.2.1 j ∧ σ'.2.2 j = σ.2.2 j) ∧ σ'.1 124 = σ.1 124 ∧ ∀ j, j ≠ 44 → j ≠ 45 → σ'.2.1 124 j = σ.2.1 124 j
theorem Ft.rfl {ls : List Nat} {σ : Mem} : Ft ls σ σ := ⟨fun _ _ _ => ⟨Eq.refl _, Eq.refl _, Eq.refl _⟩, Eq.refl _, fun _ _ _ => Eq.refl _⟩
theorem Ft.of {ls : List Nat} {σ σ' : Mem} (h : Fr ls σ σ') (hl : 124 ∉ ls) : Ft ls σ σ' := ⟨fun j hj _ => h j hj, (h 124 hl).1, fun j _ _ => by rw [(h 124 hl).2.1]⟩
theorem Ft.tr {ls : List Nat} {σ σ' σ'' : Mem} (h : Ft ls σ σ') (h' : Ft ls σ' σ'') : Ft ls σ σ'' :=
  ⟨fun j hj hn => ⟨(h'.1 j hj hn).1.trans (h.1 j hj hn).1, (h'.1 j hj hn).2.1.trans (h.1 j hj hn).2.1, (h'.1 j hj hn).2.2.trans (h.1 j hj hn).2.2⟩, h'.2.1.trans h.2.1, fun j a b => (h'.2.2 j a b).trans (h.2.2 j a b)⟩
theorem Ft.mono {ls ls' : List Nat} {σ σ' : Mem} (hl : ∀ j, j ∈ ls → j ∈ ls') (h : Ft ls σ σ') : Ft ls' σ σ' := ⟨fun j hj hn => h.1 j (fun q => hj (hl j q)) hn, h.2⟩
theorem Ft.fw {ls : List Nat} {σ σ' : Mem} (h : Ft ls σ σ') (r : Rat) : Ft ls σ (frW σ' 124 44 45 r) :=
  ⟨fun j hj hn => by
    refine ⟨(h.1 j hj hn).1, ?_, (h.1 j hj hn).2.2⟩
    rw [frW, sL_ne hn, sL_ne hn]; exact (h.1 j hj hn).2.1, h.2.1, fun j a b => by
    rw [frW, sL_of _ _ (fun q => b q.2), sL_of _ _ (fun q => a q.2)]; exact h.2.2 j a b⟩
theorem Ft.fr {ls : List Nat} {σ σ' : Mem} (h : Ft ls σ σ') : Fr (124 :: ls) σ σ' := fun j hj => h.1 j (fun q => hj (List.mem_cons_of_mem _ q)) (fun q => hj (q ▸ List.mem_cons_self))
theorem nI_or (a b : Nat) : nI a ||| nI b = nI (a ||| b) := by
  apply Int32.toBitVec_inj.1
  show BitVec.ofNat 32 a ||| BitVec.ofNat 32 b = BitVec.ofNat 32 (a ||| b)
  apply BitVec.eq_of_getLsbD_eq
  intro i hi
  simp [hi]
theorem sub_le {x t : Nat} (h : ∀ k, x.testBit k = true → t.testBit k = true) : x ≤ t := by
  have e : x &&& t = x := Nat.eq_of_testBit_eq fun i => by
    rw [Nat.testBit_and]
    have := h i
    cases q : x.testBit i <;> simp_all
  rw [← e]; exact Nat.and_le_right
theorem nS_tb {p : Nat → Bool} (h : ∀ k, p k = true → k < 16) : (nS 16 p).testBit = p := by
  funext k
  rw [nS_bit]
  have := h k
  cases q : p k
  · exact Bool.and_false _
  · simp [this q]
theorem sq_rr {w g : Nat → Nat} {Z : Nat → Bool} {f : Nat → Rat} (hZ : wT w Z ≤ 64) (hg : ∀ c, c < 16 → Z c = true → g c ≤ 240) (hf : ∀ c, c < 16 → Z c = true → 0 ≤ f c ∧ f c ≤ ((240 : Nat) : Rat)) :
    0 ≤ sT 16 Z (fun c => qF w c * ((qF g c - f c) * (qF g c - f c))) ∧ sT 16 Z (fun c => qF w c * ((qF g c - f c) * (qF g c - f c))) ≤ ((3686400 : Nat) : Rat) := by
  refine ⟨sT_nonneg fun c _ _ => Rat.mul_nonneg Rat.natCast_nonneg ?_, ?_⟩
  · rcases Rat.le_total (a := 0) (b := qF g c - f c) with q | q
    · exact Rat.mul_nonneg q q
    · have := Rat.mul_nonneg (a := -(qF g c - f c)) (b := -(qF g c - f c)) (by grind) (by grind)
      grind
  · have e1 : sT 16 Z (fun c => qF w c * ((qF g c - f c) * (qF g c - f c))) ≤ sT 16 Z (fun c => ((w c * 57600 : Nat) : Rat)) := sT_le fun c hc hZ => by
      have b0 := (hf c hc hZ).1
      have b1 := (hf c hc hZ).2
      have b2 : qF g c ≤ ((240 : Nat) : Rat) := Rat.natCast_le_natCast.mpr (hg c hc hZ)
      have b3 : 0 ≤ qF g c := Rat.natCast_nonneg
      have b4 := sq_le (x := qF g c - f c) (a := ((240 : Nat) : Rat)) (by grind) (by grind)
      have b5 := Rat.mul_le_mul_of_nonneg_left b4 (show 0 ≤ qF w c from Rat.natCast_nonneg)
      have e : ((w c * 57600 : Nat) : Rat) = qF w c * (((240 : Nat) : Rat) * ((240 : Nat) : Rat)) := by
        show ((w c * 57600 : Nat) : Rat) = ((w c : Nat) : Rat) * (((240 : Nat) : Rat) * ((240 : Nat) : Rat))
        rw [← Rat.natCast_mul, ← Rat.natCast_mul]
      rw [e]; exact b5
    rw [sT_castN] at e1
    refine Rat.le_trans e1 (Rat.natCast_le_natCast.mpr ?_)
    have e2 : sN 16 (fun c => if Z c = true then w c * 57600 else 0) = wT w Z * 57600 := by
      have : ∀ n, sN n (fun c => if Z c = true then w c * 57600 else 0) = sN n (fun c => if Z c = true then w c else 0) * 57600 := by
        intro n
        induction n with
        | zero => show 0 = 0 * 57600; rw [Nat.zero_mul]
        | succ n ih2 =>
          show sN n _ + (if Z n = true then w n * 57600 else 0) = (sN n _ + (if Z n = true then w n else 0)) * 57600
          rw [ih2, Nat.add_mul]
          by_cases q : Z n = true
          · rw [if_pos q, if_pos q]
          · rw [if_neg q, if_neg q, Nat.zero_mul]
      exact this 16
    rw [e2]; omega
/-- what the reference's fit by squares leaves -/
def SqR (w g : Nat → Nat) (ov : Nat → Nat → Bool) (T : Nat → Bool) (σ : Mem) : Prop :=
  ∃ (f : Nat → Rat) (r : Rat), VI 16 ov T (qF w) (qF g) f ∧ r = sT 16 T (fun c => qF w c * ((qF g c - f c) * (qF g c - f c))) ∧ r.den ≤ 2300000 ∧ (σ.2.1 124 44 = jJ r.num ∧ σ.2.1 124 45 = jJ (r.den : Nat)) ∧
    ∀ c, c < 16 → T c = true → (σ.2.1 154 c = jJ (f c).num ∧ σ.2.1 155 c = jJ ((f c).den : Nat) ∧ (f c).den ≤ 64 ∧ 0 ≤ f c ∧ f c ≤ ((240 : Nat) : Rat))
section rsq
variable {Θ : Th} {d : Nat} {σ : Mem} {Q : Po} {n : Nat} {D : Nat → Nat → Bool} {w g : Nat → Nat}
theorem c218 {t : Nat} {rr : Rat} {L : List Nat} (hn : σ.1 124 38 = nI n) (h16 : n ≤ 16) (hw : ∀ c, c < n → σ.1 144 c = nI (w c) ∧ 1 ≤ w c ∧ w c ≤ 4) (hg : ∀ c, c < n → σ.1 143 c = nI (g c) ∧ g c ≤ 240) (ht : t < 2 ^ n) (hp : 0 < wT w t.testBit) (hl : LayA D w g t σ)
    (htot : σ.2.1 124 44 = jJ rr.num ∧ σ.2.1 124 45 = jJ (rr.den : Nat)) (hL : ∀ a, a ∈ L → 1 ≤ a ∧ a ≤ 64) (hS : sumL L + wT w t.testBit ≤ 64) (hden : rr.den ∣ lcmL L) (h0 : 0 ≤ rr) (h1 : rr ≤ ((3686400 : Nat) : Rat))
    (k : ∀ σ', Ft [154, 155] σ σ' → (∀ c, t.testBit c = true → σ'.2.1 154 c = jJ (mT w g t.testBit).num ∧ σ'.2.1 155 c = jJ ((mT w g t.testBit).den : Nat)) → (∀ c, t.testBit c = false → σ'.2.1 154 c = σ.2.1 154 c ∧ σ'.2.1 155 c = σ.2.1 155 c) →
      (σ'.2.1 124 44 = jJ (rr + mkRat ((qT w g t.testBit : Int) * (wT w t.testBit : Int) - (gT w g t.testBit : Int) * (gT w g t.testBit : Int)) (wT w t.testBit)).num ∧ σ'.2.1 124 45 = jJ ((rr + mkRat ((qT w g t.testBit : Int) * (wT w t.testBit : Int) - (gT w g t.testBit : Int) * (gT w g t.testBit : Int)) (wT w t.testBit)).den : Nat)) → Q none σ') :
    Cm Θ (d + 3) 218 [.ref 124, .int (nI t)] σ Q := by
  have h65 := pw_le h16
  have hT : ∀ c, t.testBit c = true → c < n := fun c => pw_b ht
  have hw4 : ∀ c, c < n → w c ≤ 4 := fun c h => (hw c h).2.2
  have hg2 : ∀ c, c < n → g c ≤ 240 := fun c h => (hg c h).2
  have bW' := wT_b (w := w) (T := t.testBit) h16 hT hw4
  have bG' := gT_b (w := w) (g := g) (T := t.testBit) hT hw4 hg2
  have bQ' := qT_b (w := w) (g := g) (T := t.testBit) hT hw4 hg2
  have eQ : sN 16 (fun c => if t.testBit c = true then w c * g c * g c else 0) = sN n (fun c => if t.testBit c = true then w c * g c * g c else 0) := sN_cut h16 fun c h => if_neg fun q => by have := hT c q; omega
  have cu := cost_0 (w := w) (g := g) hp
  have cu' : ((qT w g t.testBit : Int) * (wT w t.testBit : Int) - (gT w g t.testBit : Int) * (gT w g t.testBit : Int)) ≤ 235929600 := by
    have h1 : qT w g t.testBit * wT w t.testBit ≤ 3686400 * 64 := Nat.mul_le_mul bQ' bW'
    have h2 : ((qT w g t.testBit : Int) * (wT w t.testBit : Int)) = ((qT w g t.testBit * wT w t.testBit : Nat) : Int) := (Int.natCast_mul _ _).symm
    have h3 : ((gT w g t.testBit : Int) * (gT w g t.testBit : Int)) = ((gT w g t.testBit * gT w g t.testBit : Nat) : Int) := (Int.natCast_mul _ _).symm
    rw [h2, h3]; omega
  have hMl : lcmL (wT w t.testBit :: L) ≤ 2300000 := lcm_64 (fun a ha => by
    rcases List.mem_cons.mp ha with rfl | ha
    · exact ⟨hp, bW'⟩
    · exact hL a ha) (by show wT w t.testBit + sumL L ≤ 64; omega)
  obtain ⟨a1, a2, a3, a4⟩ := add_ok hL hMl (Nat.le_refl _) ⟨hp, bW'⟩ hden h0 h1 cu cu'
  generalize hu : ((qT w g t.testBit : Int) * (wT w t.testBit : Int) - (gT w g t.testBit : Int) * (gT w g t.testBit : Int)) = u at k cu cu' a3 a4
  have vx : vp_in (nI t) 65536 := vp_in_nI (by omega) (by decide)
  refine K218 (B218_0 ⟨vx, vx, ?_⟩)
  rw [nI_clamp (by omega), hl.2.1, hl.2.2, nI_j (by omega), nI_j (by omega)]
  have hgl : Nat.gcd (gT w g t.testBit) (wT w t.testBit) ≤ wT w t.testBit := Nat.gcd_le_right _ hp
  have hg0 : 0 < Nat.gcd (gT w g t.testBit) (wT w t.testBit) := Nat.gcd_pos_of_pos_right _ hp
  obtain ⟨e1, e2⟩ := mk_num (u := ((gT w g t.testBit : Nat) : Int)) hp rfl
  have e1' : (mT w g t.testBit).num = ((gT w g t.testBit / Nat.gcd (gT w g t.testBit) (wT w t.testBit) : Nat) : Int) := e1
  have e2' : (mT w g t.testBit).den = wT w t.testBit / Nat.gcd (gT w g t.testBit) (wT w t.testBit) := e2
  refine cl (x := jJ (Nat.gcd (gT w g t.testBit) (wT w t.testBit) : Nat)) (fun _ q => c210 (u := ((gT w g t.testBit : Nat) : Int)) (by omega) (by omega) (by omega) q) ?_
  generalize hgg : Nat.gcd (gT w g t.testBit) (wT w t.testBit) = gg at hgl hg0 e1' e2'
  have ne : ¬ jJ (gg : Nat) = 0 := fun q => by rw [jJ_0, jJ_eq (by omega) (by omega) (by omega) (by omega)] at q; omega
  refine loopS (α := Mem) (I := fun i s => Fr [154, 155] σ s ∧ (∀ c, c < i → t.testBit c = true → s.2.1 154 c = jJ (mT w g t.testBit).num ∧ s.2.1 155 c = jJ ((mT w g t.testBit).den : Nat)) ∧ ∀ c, t.testBit c = false → s.2.1 154 c = σ.2.1 154 c ∧ s.2.1 155 c = σ.2.1 155 c)
    (P := fun i s => G Θ (d + 3) 218 24 [some (.ref 124), some (.int (nI t)), some (.long (jJ (sN i (fun c => if t.testBit c = true then w c * g c * g c else 0) : Nat))), none, some (.long (jJ (gg : Nat))), none, some (.int (nI i))] [] s Q) n ?_ ?_ σ ⟨Fr.rfl, fun c h => absurd h (Nat.not_lt_zero _), fun c _ => ⟨rfl, rfl⟩⟩
  · intro s ⟨hf, hs, hs'⟩
    have hn' : s.1 124 38 = nI n := by rw [(hf 124 (by simp)).1]; exact hn
    refine B218_24 ⟨fun _ => ⟨vx, vx, vx, vx, ?_⟩, fun h => absurd (by rw [hn']; exact nI_le (Nat.le_refl _) (by omega)) h⟩
    rw [nI_clamp (by omega), (hf 152 (by simp)).1, (hf 153 (by simp)).1, hl.2.1, hl.2.2, nI_j (by omega), nI_j (by omega), ← eQ, jJ_mul, jJ_mul, jJ_sub]
    show Cv Θ (d + 2) 212 [.ref 124, .long (jJ ((qT w g t.testBit : Int) * (wT w t.testBit : Int) - (gT w g t.testBit : Int) * (gT w g t.testBit : Int))), .long (jJ (wT w t.testBit : Nat))] s (fun σ6 => Q none σ6)
    rw [hu]
    have t4 := (hf 124 (by simp)).2.1
    refine c212 (r := rr) ⟨by rw [t4]; exact htot.1, by rw [t4]; exact htot.2⟩ a1 hp a2 a3 a4 ⟨rfl, ?_⟩
    refine k _ (Ft.fw (Ft.of hf (by simp)) _) (fun c hTc => ?_) (fun c hTc => ?_) ⟨by rw [frW, sL_of _ _ (by omega), sL_at], by rw [frW, sL_at]⟩
    · rw [frW, sL_ne (by omega), sL_ne (by omega), sL_ne (by omega), sL_ne (by omega)]
      exact hs c (hT c hTc) hTc
    · rw [frW, sL_ne (by omega), sL_ne (by omega), sL_ne (by omega), sL_ne (by omega)]
      exact hs' c hTc
  · intro i s hi ⟨hf, hs, hs'⟩ ih
    have hn' : s.1 124 38 = nI n := by rw [(hf 124 (by simp)).1]; exact hn
    have v := vp_in_nI (show i < 16 by omega) (by decide)
    refine B218_24 ⟨fun h => absurd h (by rw [hn']; exact nI_ge hi (by omega)), fun _ => ?_⟩
    rw [bt_shr _ (by omega), bt_nI _ (by omega), nI_1, nI_clamp (show i < 2147483648 by omega), nI_clamp (show t < 2147483648 by omega)]
    have s3 : sN (i + 1) (fun c => if t.testBit c = true then w c * g c * g c else 0) = sN i (fun c => if t.testBit c = true then w c * g c * g c else 0) + (if t.testBit i = true then w i * g i * g i else 0) := rfl
    rw [s3] at ih
    refine ⟨fun h => ⟨v, v, v, vx, ne, v, vx, ne, v, ?_⟩, fun h => ?_⟩
    · rw [b01_n] at h
      have b1 := hw4 i hi
      have b2 := hg2 i hi
      rw [sL_I, (hf 152 (by simp)).1, (hf 153 (by simp)).1, (hf 143 (by simp)).1, (hf 144 (by simp)).1, hl.2.1, hl.2.2, (hw i hi).1, (hg i hi).1, nI_j (show gT w g t.testBit < 2 ^ 31 by omega), nI_j (show wT w t.testBit < 2 ^ 31 by omega), nI_j (show w i < 2 ^ 31 by omega), nI_j (show g i < 2 ^ 31 by omega), jJ_divN (by omega) (by omega), jJ_divN (by omega) (by omega), jJ_mul, jJ_mul, jJ_add, ← e1', ← e2']
      have e : ((sN i (fun c => if t.testBit c = true then w c * g c * g c else 0) : Nat) : Int) + ((w i : Nat) : Int) * ((g i : Nat) : Int) * ((g i : Nat) : Int) = ((sN i (fun c => if t.testBit c = true then w c * g c * g c else 0) + w i * g i * g i : Nat) : Int) := by rw [Int.natCast_add, Int.natCast_mul, Int.natCast_mul]
      rw [e]
      rw [h, if_pos rfl] at ih
      refine ih _ ⟨(hf.L (by simp)).L (by simp), fun c hc' hTc => ⟨?_, ?_⟩, fun c hTc => ⟨?_, ?_⟩⟩
      · rw [sL_of _ _ (by omega)]
        by_cases z : c = i
        · rw [z, sL_at]
        · rw [sL_of _ _ (by omega)]; exact (hs c (by omega) hTc).1
      · by_cases z : c = i
        · rw [z, sL_at]
        · rw [sL_of _ _ (by omega), sL_of _ _ (by omega)]; exact (hs c (by omega) hTc).2
      · have z : c ≠ i := fun q => by rw [q, h] at hTc; cases hTc
        rw [sL_of _ _ (by omega), sL_of _ _ (by omega)]; exact (hs' c hTc).1
      · have z : c ≠ i := fun q => by rw [q, h] at hTc; cases hTc
        rw [sL_of _ _ (by omega), sL_of _ _ (by omega)]; exact (hs' c hTc).2
    · rw [b01_0] at h
      rw [h] at ih
      refine ih s ⟨hf, fun c hc' hTc => ?_, hs'⟩
      by_cases z : c = i
      · rw [z, h] at hTc; cases hTc
      · exact hs c (by omega) hTc
end rsq
