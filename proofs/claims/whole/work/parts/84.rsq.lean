/-! CONTRACTS: the reference's fit by squares. Ft: what stays but the cells of these labels and the fraction's two longs -/
def Ft (ls : List Nat) (σ σ' : Mem) : Prop :=
  (∀ j, j ∉ ls → j ≠ 124 → σ'.1 j = σ.1 j ∧ σ'.2.1 j = σ.2.1 j ∧ σ'.2.2 j = σ.2.2 j) ∧ σ'.1 124 = σ.1 124 ∧ ∀ j, j ≠ 44 → j ≠ 45 → σ'.2.1 124 j = σ.2.1 124 j
theorem Ft.rfl {ls : List Nat} {σ : Mem} : Ft ls σ σ := ⟨fun _ _ _ => ⟨Eq.refl _, Eq.refl _, Eq.refl _⟩, Eq.refl _, fun _ _ _ => Eq.refl _⟩
theorem Ft.of {ls : List Nat} {σ σ' : Mem} (h : Fr ls σ σ') (hl : 124 ∉ ls) : Ft ls σ σ' := ⟨fun j hj _ => h j hj, (h 124 hl).1, fun j _ _ => by rw [(h 124 hl).2.1]⟩
theorem Ft.tr {ls : List Nat} {σ σ' σ'' : Mem} (h : Ft ls σ σ') (h' : Ft ls σ' σ'') : Ft ls σ σ'' :=
  ⟨fun j hj hn => ⟨(h'.1 j hj hn).1.trans (h.1 j hj hn).1, (h'.1 j hj hn).2.1.trans (h.1 j hj hn).2.1, (h'.1 j hj hn).2.2.trans (h.1 j hj hn).2.2⟩, h'.2.1.trans h.2.1, fun j a b => (h'.2.2 j a b).trans (h.2.2 j a b)⟩
theorem Ft.mono {ls ls' : List Nat} {σ σ' : Mem} (hl : ∀ j, j ∈ ls → j ∈ ls') (h : Ft ls σ σ') : Ft ls' σ σ' := ⟨fun j hj hn => h.1 j (fun q => hj (hl j q)) hn, h.2⟩
theorem Ft.fw {ls : List Nat} {σ σ' : Mem} (h : Ft ls σ σ') (r : Rat) : Ft ls σ (frW σ' 124 44 45 r) :=
  ⟨fun j hj hn => by
    refine ⟨(h.1 j hj hn).1, ?_, (h.1 j hj hn).2.2⟩
    rw [frW, sL_ne hn, sL_ne hn]; exact (h.1 j hj hn).2.1, h.2.1, fun j a b => by
    rw [frW, sL_of _ _ (fun q => b q.2), sL_of _ _ (fun q => a q.2)]; exact h.2.2 j a b⟩
theorem Ft.fr {ls : List Nat} {σ σ' : Mem} (h : Ft ls σ σ') : Fr (124 :: ls) σ σ' := fun j hj => h.1 j (fun q => hj (List.mem_cons_of_mem _ q)) (fun q => hj (q ▸ List.mem_cons_self))
theorem nI_or (a b : Nat) : nI a ||| nI b = nI (a ||| b) := by
  apply Int32.toBitVec_inj.1
  show BitVec.ofNat 32 a ||| BitVec.ofNat 32 b = BitVec.ofNat 32 (a ||| b)
  apply BitVec.eq_of_getLsbD_eq
  intro i hi
  simp [hi]
theorem sub_le {x t : Nat} (h : ∀ k, x.testBit k = true → t.testBit k = true) : x ≤ t := by
  have e : x &&& t = x := Nat.eq_of_testBit_eq fun i => by
    rw [Nat.testBit_and]
    have := h i
    cases q : x.testBit i <;> simp_all
  rw [← e]; exact Nat.and_le_right
theorem nS_tb {p : Nat → Bool} (h : ∀ k, p k = true → k < 16) : (nS 16 p).testBit = p := by
  funext k
  rw [nS_bit]
  have := h k
  cases q : p k
  · exact Bool.and_false _
  · simp [this q]
theorem sq_rr {w g : Nat → Nat} {Z : Nat → Bool} {f : Nat → Rat} (hZ : wT w Z ≤ 64) (hg : ∀ c, c < 16 → Z c = true → g c ≤ 240) (hf : ∀ c, c < 16 → Z c = true → 0 ≤ f c ∧ f c ≤ ((240 : Nat) : Rat)) :
    0 ≤ sT 16 Z (fun c => qF w c * ((qF g c - f c) * (qF g c - f c))) ∧ sT 16 Z (fun c => qF w c * ((qF g c - f c) * (qF g c - f c))) ≤ ((3686400 : Nat) : Rat) := by
  refine ⟨sT_nonneg fun c _ _ => Rat.mul_nonneg Rat.natCast_nonneg ?_, ?_⟩
  · rcases Rat.le_total (a := 0) (b := qF g c - f c) with q | q
    · exact Rat.mul_nonneg q q
    · have := Rat.mul_nonneg (a := -(qF g c - f c)) (b := -(qF g c - f c)) (by grind) (by grind)
      grind
  · have e1 : sT 16 Z (fun c => qF w c * ((qF g c - f c) * (qF g c - f c))) ≤ sT 16 Z (fun c => ((w c * 57600 : Nat) : Rat)) := sT_le fun c hc hZ => by
      have b0 := (hf c hc hZ).1
      have b1 := (hf c hc hZ).2
      have b2 : qF g c ≤ ((240 : Nat) : Rat) := Rat.natCast_le_natCast.mpr (hg c hc hZ)
      have b3 : 0 ≤ qF g c := Rat.natCast_nonneg
      have b4 := sq_le (x := qF g c - f c) (a := ((240 : Nat) : Rat)) (by grind) (by grind)
      have b5 := Rat.mul_le_mul_of_nonneg_left b4 (show 0 ≤ qF w c from Rat.natCast_nonneg)
      have e : ((w c * 57600 : Nat) : Rat) = qF w c * (((240 : Nat) : Rat) * ((240 : Nat) : Rat)) := by
        show ((w c * 57600 : Nat) : Rat) = ((w c : Nat) : Rat) * (((240 : Nat) : Rat) * ((240 : Nat) : Rat))
        rw [← Rat.natCast_mul, ← Rat.natCast_mul]
      rw [e]; exact b5
    rw [sT_castN] at e1
    refine Rat.le_trans e1 (Rat.natCast_le_natCast.mpr ?_)
    have e2 : sN 16 (fun c => if Z c = true then w c * 57600 else 0) = wT w Z * 57600 := by
      have : ∀ n, sN n (fun c => if Z c = true then w c * 57600 else 0) = sN n (fun c => if Z c = true then w c else 0) * 57600 := by
        intro n
        induction n with
        | zero => show 0 = 0 * 57600; rw [Nat.zero_mul]
        | succ n ih2 =>
          show sN n _ + (if Z n = true then w n * 57600 else 0) = (sN n _ + (if Z n = true then w n else 0)) * 57600
          rw [ih2, Nat.add_mul]
          by_cases q : Z n = true
          · rw [if_pos q, if_pos q]
          · rw [if_neg q, if_neg q, Nat.zero_mul]
      exact this 16
    rw [e2]; omega
/-- what the reference's fit by squares leaves -/
def SqR (w g : Nat → Nat) (ov : Nat → Nat → Bool) (T : Nat → Bool) (σ : Mem) : Prop :=
  ∃ (f : Nat → Rat) (r : Rat), VI 16 ov T (qF w) (qF g) f ∧ r = sT 16 T (fun c => qF w c * ((qF g c - f c) * (qF g c - f c))) ∧ r.den ≤ 2300000 ∧ (σ.2.1 124 44 = jJ r.num ∧ σ.2.1 124 45 = jJ (r.den : Nat)) ∧
    ∀ c, c < 16 → T c = true → (σ.2.1 154 c = jJ (f c).num ∧ σ.2.1 155 c = jJ ((f c).den : Nat) ∧ (f c).den ≤ 64 ∧ 0 ≤ f c ∧ f c ≤ ((240 : Nat) : Rat))
section rsq
variable {Θ : Th} {d : Nat} {σ : Mem} {Q : Po} {n : Nat} {D : Nat → Nat → Bool} {w g : Nat → Nat}
theorem c218 {t : Nat} {rr : Rat} {L : List Nat} (hn : σ.1 124 38 = nI n) (h16 : n ≤ 16) (hw : ∀ c, c < n → σ.1 144 c = nI (w c) ∧ 1 ≤ w c ∧ w c ≤ 4) (hg : ∀ c, c < n → σ.1 143 c = nI (g c) ∧ g c ≤ 240) (ht : t < 2 ^ n) (hp : 0 < wT w t.testBit) (hl : LayA D w g t σ)
    (htot : σ.2.1 124 44 = jJ rr.num ∧ σ.2.1 124 45 = jJ (rr.den : Nat)) (hL : ∀ a, a ∈ L → 1 ≤ a ∧ a ≤ 64) (hS : sumL L + wT w t.testBit ≤ 64) (hden : rr.den ∣ lcmL L) (h0 : 0 ≤ rr) (h1 : rr ≤ ((3686400 : Nat) : Rat))
    (k : ∀ σ', Ft [154, 155] σ σ' → (∀ c, t.testBit c = true → σ'.2.1 154 c = jJ (mT w g t.testBit).num ∧ σ'.2.1 155 c = jJ ((mT w g t.testBit).den : Nat)) → (∀ c, t.testBit c = false → σ'.2.1 154 c = σ.2.1 154 c ∧ σ'.2.1 155 c = σ.2.1 155 c) →
      (σ'.2.1 124 44 = jJ (rr + mkRat ((qT w g t.testBit : Int) * (wT w t.testBit : Int) - (gT w g t.testBit : Int) * (gT w g t.testBit : Int)) (wT w t.testBit)).num ∧ σ'.2.1 124 45 = jJ ((rr + mkRat ((qT w g t.testBit : Int) * (wT w t.testBit : Int) - (gT w g t.testBit : Int) * (gT w g t.testBit : Int)) (wT w t.testBit)).den : Nat)) → Q none σ') :
    Cm Θ (d + 3) 218 [.ref 124, .int (nI t)] σ Q := by
  have h65 := pw_le h16
  have hT : ∀ c, t.testBit c = true → c < n := fun c => pw_b ht
  have hw4 : ∀ c, c < n → w c ≤ 4 := fun c h => (hw c h).2.2
  have hg2 : ∀ c, c < n → g c ≤ 240 := fun c h => (hg c h).2
  have bW' := wT_b (w := w) (T := t.testBit) h16 hT hw4
  have bG' := gT_b (w := w) (g := g) (T := t.testBit) hT hw4 hg2
  have bQ' := qT_b (w := w) (g := g) (T := t.testBit) hT hw4 hg2
  have eQ : sN 16 (fun c => if t.testBit c = true then w c * g c * g c else 0) = sN n (fun c => if t.testBit c = true then w c * g c * g c else 0) := sN_cut h16 fun c h => if_neg fun q => by have := hT c q; omega
  have cu := cost_0 (w := w) (g := g) hp
  have cu' : ((qT w g t.testBit : Int) * (wT w t.testBit : Int) - (gT w g t.testBit : Int) * (gT w g t.testBit : Int)) ≤ 235929600 := by
    have h1 : qT w g t.testBit * wT w t.testBit ≤ 3686400 * 64 := Nat.mul_le_mul bQ' bW'
    have h2 : ((qT w g t.testBit : Int) * (wT w t.testBit : Int)) = ((qT w g t.testBit * wT w t.testBit : Nat) : Int) := (Int.natCast_mul _ _).symm
    have h3 : ((gT w g t.testBit : Int) * (gT w g t.testBit : Int)) = ((gT w g t.testBit * gT w g t.testBit : Nat) : Int) := (Int.natCast_mul _ _).symm
    rw [h2, h3]; omega
  have hMl : lcmL (wT w t.testBit :: L) ≤ 2300000 := lcm_64 (fun a ha => by
    rcases List.mem_cons.mp ha with rfl | ha
    · exact ⟨hp, bW'⟩
    · exact hL a ha) (by show wT w t.testBit + sumL L ≤ 64; omega)
  obtain ⟨a1, a2, a3, a4⟩ := add_ok hL hMl (Nat.le_refl _) ⟨hp, bW'⟩ hden h0 h1 cu cu'
  generalize hu : ((qT w g t.testBit : Int) * (wT w t.testBit : Int) - (gT w g t.testBit : Int) * (gT w g t.testBit : Int)) = u at k cu cu' a3 a4
  have vx : vp_in (nI t) 65536 := vp_in_nI (by omega) (by decide)
  refine K218 (B218_0 ⟨vx, vx, ?_⟩)
  rw [nI_clamp (by omega), hl.2.1, hl.2.2, nI_j (by omega), nI_j (by omega)]
  have hgl : Nat.gcd (gT w g t.testBit) (wT w t.testBit) ≤ wT w t.testBit := Nat.gcd_le_right _ hp
  have hg0 : 0 < Nat.gcd (gT w g t.testBit) (wT w t.testBit) := Nat.gcd_pos_of_pos_right _ hp
  obtain ⟨e1, e2⟩ := mk_num (u := ((gT w g t.testBit : Nat) : Int)) hp rfl
  have e1' : (mT w g t.testBit).num = ((gT w g t.testBit / Nat.gcd (gT w g t.testBit) (wT w t.testBit) : Nat) : Int) := e1
  have e2' : (mT w g t.testBit).den = wT w t.testBit / Nat.gcd (gT w g t.testBit) (wT w t.testBit) := e2
  refine cl (x := jJ (Nat.gcd (gT w g t.testBit) (wT w t.testBit) : Nat)) (fun _ q => c210 (u := ((gT w g t.testBit : Nat) : Int)) (by omega) (by omega) (by omega) q) ?_
  generalize hgg : Nat.gcd (gT w g t.testBit) (wT w t.testBit) = gg at hgl hg0 e1' e2'
  have ne : ¬ jJ (gg : Nat) = 0 := fun q => by rw [jJ_0, jJ_eq (by omega) (by omega) (by omega) (by omega)] at q; omega
  refine loopS (α := Mem) (I := fun i s => Fr [154, 155] σ s ∧ (∀ c, c < i → t.testBit c = true → s.2.1 154 c = jJ (mT w g t.testBit).num ∧ s.2.1 155 c = jJ ((mT w g t.testBit).den : Nat)) ∧ ∀ c, t.testBit c = false → s.2.1 154 c = σ.2.1 154 c ∧ s.2.1 155 c = σ.2.1 155 c)
    (P := fun i s => G Θ (d + 3) 218 24 [some (.ref 124), some (.int (nI t)), some (.long (jJ (sN i (fun c => if t.testBit c = true then w c * g c * g c else 0) : Nat))), none, some (.long (jJ (gg : Nat))), none, some (.int (nI i))] [] s Q) n ?_ ?_ σ ⟨Fr.rfl, fun c h => absurd h (Nat.not_lt_zero _), fun c _ => ⟨rfl, rfl⟩⟩
  · intro s ⟨hf, hs, hs'⟩
    have hn' : s.1 124 38 = nI n := by rw [(hf 124 (by simp)).1]; exact hn
    refine B218_24 ⟨fun _ => ⟨vx, vx, vx, vx, ?_⟩, fun h => absurd (by rw [hn']; exact nI_le (Nat.le_refl _) (by omega)) h⟩
    rw [nI_clamp (by omega), (hf 152 (by simp)).1, (hf 153 (by simp)).1, hl.2.1, hl.2.2, nI_j (by omega), nI_j (by omega), ← eQ, jJ_mul, jJ_mul, jJ_sub]
    show Cv Θ (d + 2) 212 [.ref 124, .long (jJ ((qT w g t.testBit : Int) * (wT w t.testBit : Int) - (gT w g t.testBit : Int) * (gT w g t.testBit : Int))), .long (jJ (wT w t.testBit : Nat))] s (fun σ6 => Q none σ6)
    rw [hu]
    have t4 := (hf 124 (by simp)).2.1
    refine c212 (r := rr) ⟨by rw [t4]; exact htot.1, by rw [t4]; exact htot.2⟩ a1 hp a2 a3 a4 ⟨rfl, ?_⟩
    refine k _ (Ft.fw (Ft.of hf (by simp)) _) (fun c hTc => ?_) (fun c hTc => ?_) ⟨by rw [frW, sL_of _ _ (by omega), sL_at], by rw [frW, sL_at]⟩
    · rw [frW, sL_ne (by omega), sL_ne (by omega), sL_ne (by omega), sL_ne (by omega)]
      exact hs c (hT c hTc) hTc
    · rw [frW, sL_ne (by omega), sL_ne (by omega), sL_ne (by omega), sL_ne (by omega)]
      exact hs' c hTc
  · intro i s hi ⟨hf, hs, hs'⟩ ih
    have hn' : s.1 124 38 = nI n := by rw [(hf 124 (by simp)).1]; exact hn
    have v := vp_in_nI (show i < 16 by omega) (by decide)
    refine B218_24 ⟨fun h => absurd h (by rw [hn']; exact nI_ge hi (by omega)), fun _ => ?_⟩
    rw [bt_shr _ (by omega), bt_nI _ (by omega), nI_1, nI_clamp (show i < 2147483648 by omega), nI_clamp (show t < 2147483648 by omega)]
    have s3 : sN (i + 1) (fun c => if t.testBit c = true then w c * g c * g c else 0) = sN i (fun c => if t.testBit c = true then w c * g c * g c else 0) + (if t.testBit i = true then w i * g i * g i else 0) := rfl
    rw [s3] at ih
    refine ⟨fun h => ⟨v, v, v, vx, ne, v, vx, ne, v, ?_⟩, fun h => ?_⟩
    · rw [b01_n] at h
      have b1 := hw4 i hi
      have b2 := hg2 i hi
      rw [sL_I, (hf 152 (by simp)).1, (hf 153 (by simp)).1, (hf 143 (by simp)).1, (hf 144 (by simp)).1, hl.2.1, hl.2.2, (hw i hi).1, (hg i hi).1, nI_j (show gT w g t.testBit < 2 ^ 31 by omega), nI_j (show wT w t.testBit < 2 ^ 31 by omega), nI_j (show w i < 2 ^ 31 by omega), nI_j (show g i < 2 ^ 31 by omega), jJ_divN (by omega) (by omega), jJ_divN (by omega) (by omega), jJ_mul, jJ_mul, jJ_add, ← e1', ← e2']
      have e : ((sN i (fun c => if t.testBit c = true then w c * g c * g c else 0) : Nat) : Int) + ((w i : Nat) : Int) * ((g i : Nat) : Int) * ((g i : Nat) : Int) = ((sN i (fun c => if t.testBit c = true then w c * g c * g c else 0) + w i * g i * g i : Nat) : Int) := by rw [Int.natCast_add, Int.natCast_mul, Int.natCast_mul]
      rw [e]
      rw [h, if_pos rfl] at ih
      refine ih _ ⟨(hf.L (by simp)).L (by simp), fun c hc' hTc => ⟨?_, ?_⟩, fun c hTc => ⟨?_, ?_⟩⟩
      · rw [sL_of _ _ (by omega)]
        by_cases z : c = i
        · rw [z, sL_at]
        · rw [sL_of _ _ (by omega)]; exact (hs c (by omega) hTc).1
      · by_cases z : c = i
        · rw [z, sL_at]
        · rw [sL_of _ _ (by omega), sL_of _ _ (by omega)]; exact (hs c (by omega) hTc).2
      · have z : c ≠ i := fun q => by rw [q, h] at hTc; cases hTc
        rw [sL_of _ _ (by omega), sL_of _ _ (by omega)]; exact (hs' c hTc).1
      · have z : c ≠ i := fun q => by rw [q, h] at hTc; cases hTc
        rw [sL_of _ _ (by omega), sL_of _ _ (by omega)]; exact (hs' c hTc).2
    · rw [b01_0] at h
      rw [h] at ih
      refine ih s ⟨hf, fun c hc' hTc => ?_, hs'⟩
      by_cases z : c = i
      · rw [z, h] at hTc; cases hTc
      · exact hs c (by omega) hTc
/-- the best of the sets ahead of i: none, or one that holds what it is over, of the least mean -/
def Bst (w g : Nat → Nat) (D : Nat → Nat → Bool) (t i b : Nat) : Prop :=
  (b = 0 ∧ ∀ x, 0 < x → x < i → ¬ loO D t.testBit x.testBit) ∨ (0 < b ∧ b < 65536 ∧ loO D t.testBit b.testBit ∧ ∀ x, 0 < x → x < i → loO D t.testBit x.testBit → gT w g b.testBit * wT w x.testBit ≤ gT w g x.testBit * wT w b.testBit)
theorem bst_skip {t i b : Nat} (h : Bst w g D t i b) (hx : ¬ loO D t.testBit i.testBit) : Bst w g D t (i + 1) b := by
  rcases h with ⟨h1, h2⟩ | ⟨h1, h2, h3, h4⟩
  · exact Or.inl ⟨h1, fun x h0 hl q => by
      rcases Nat.lt_or_ge x i with e | e
      · exact h2 x h0 e q
      · have : x = i := by omega
        subst this; exact hx q⟩
  · exact Or.inr ⟨h1, h2, h3, fun x h0 hl q => by
      rcases Nat.lt_or_ge x i with e | e
      · exact h4 x h0 e q
      · have : x = i := by omega
        subst this; exact absurd q hx⟩
theorem tb_pos {x : Nat} (h0 : 0 < x) (h : x < 65536) : ∃ c, c < 16 ∧ x.testBit c = true := by
  refine Classical.byContradiction fun q => ?_
  have : x = 0 := Nat.eq_of_testBit_eq fun j => by
    rw [Nat.zero_testBit]
    rcases Nat.lt_or_ge j 16 with e | e
    · cases z : x.testBit j
      · rfl
      · exact absurd ⟨j, e, z⟩ q
    · exact Nat.testBit_lt_two_pow (Nat.lt_of_lt_of_le h (Nat.le_trans (by decide) (Nat.pow_le_pow_right (by decide) e)))
  omega
theorem wT_0 {T : Nat → Bool} (h : ∀ c, c < 16 → T c = false) : wT w T = 0 ∧ gT w g T = 0 := by
  have e : ∀ f : Nat → Nat, sN 16 (fun c => if T c = true then f c else 0) = 0 := fun f => by
    rw [sN_congr 16 (g := fun _ => 0) (fun c hc => by rw [h c hc]; rfl)]; rfl
  exact ⟨e w, e fun c => w c * g c⟩
theorem bst_new {t i b : Nat} (h : Bst w g D t i b) (h0 : 0 < i) (hi : i < 65536) (hx : loO D t.testBit i.testBit) (hw : ∀ c, c < 16 → t.testBit c = true → 0 < w c) (hlt : b = 0 ∨ gT w g i.testBit * wT w b.testBit < gT w g b.testBit * wT w i.testBit) : Bst w g D t (i + 1) i := by
  refine Or.inr ⟨h0, hi, hx, fun x h0 hl q => ?_⟩
  rcases Nat.lt_or_ge x i with e | e
  · rcases h with ⟨h1, h2⟩ | ⟨h1, h2, h3, h4⟩
    · exact absurd q (h2 x h0 e)
    · obtain ⟨c, hc, hb⟩ := tb_pos h1 h2
      have hv : 0 < wT w b.testBit := wT_pos (fun c hc h => hw c hc (h3.1 c hc h)) hc hb
      have := hlt.resolve_left (by omega)
      exact low_tr hv (Nat.le_of_lt this) (h4 x h0 e q)
  · have : x = i := by omega
    subst this; exact Nat.le_refl _
theorem bst_keep {t i b : Nat} (h : Bst w g D t i b) (h0 : 0 < b) (hle : gT w g b.testBit * wT w i.testBit ≤ gT w g i.testBit * wT w b.testBit) : Bst w g D t (i + 1) b := by
  rcases h with ⟨h1, h2⟩ | ⟨h1, h2, h3, h4⟩
  · omega
  · refine Or.inr ⟨h1, h2, h3, fun x h0 hl q => ?_⟩
    rcases Nat.lt_or_ge x i with e | e
    · exact h4 x h0 e q
    · have : x = i := by omega
      subst this; exact hle
theorem tb_or (b i : Nat) : (b ||| i).testBit = uB b.testBit i.testBit := funext fun k => by rw [Nat.testBit_or]; rfl
theorem tb_and (b i : Nat) : (b &&& i).testBit = nB b.testBit i.testBit := funext fun k => by rw [Nat.testBit_and]; rfl
theorem bst_both {t i b : Nat} (h : Bst w g D t i b) (h0 : 0 < b) (hi0 : 0 < i) (hi : i < 65536) (hx : loO D t.testBit i.testBit) (hw : ∀ c, c < 16 → t.testBit c = true → 0 < w c) (he : gT w g i.testBit * wT w b.testBit = gT w g b.testBit * wT w i.testBit) : Bst w g D t (i + 1) (b ||| i) := by
  rcases h with ⟨h1, h2⟩ | ⟨h1, h2, h3, h4⟩
  · omega
  · obtain ⟨c, hc, hb⟩ := tb_pos h1 h2
    have hv : 0 < wT w b.testBit := wT_pos (fun c hc h => hw c hc (h3.1 c hc h)) hc hb
    have hn : gT w g b.testBit * wT w (nB b.testBit i.testBit) ≤ gT w g (nB b.testBit i.testBit) * wT w b.testBit := by
      rw [← tb_and]
      have hlo : loO D t.testBit (b &&& i).testBit := by rw [tb_and]; exact loO_n h3 hx
      rcases Nat.eq_zero_or_pos (b &&& i) with z | z
      · have := wT_0 (w := w) (g := g) (T := (b &&& i).testBit) (fun c _ => by rw [z]; exact tb0 c)
        rw [this.1, this.2]; omega
      · have hle : b &&& i ≤ i := Nat.and_le_right
        rcases Nat.lt_or_ge (b &&& i) i with e | e
        · exact h4 _ z e hlo
        · have : b &&& i = i := by omega
          rw [this, he]; exact Nat.le_refl _
    have hu := low_u (w := w) (g := g) he hn
    have hor : b ||| i < 65536 := Nat.or_lt_two_pow (n := 16) h2 hi
    refine Or.inr ⟨Nat.lt_of_lt_of_le h1 Nat.left_le_or, hor, by rw [tb_or]; exact loO_u h3 hx, fun x hx0 hl q => ?_⟩
    rw [tb_or]
    refine low_tr hv hu ?_
    rcases Nat.lt_or_ge x i with e | e
    · exact h4 x hx0 e q
    · have : x = i := by omega
      subst this; rw [he]; exact Nat.le_refl _
/-- at the end it is of the least mean of all -/
theorem bst_end {t b : Nat} (h : Bst w g D t (t + 1) b) (h0 : 0 < t) (ht : t < 65536) : 0 < b ∧ b < 65536 ∧ loO D t.testBit b.testBit ∧ ∀ V, loO D t.testBit V → gT w g b.testBit * wT w V ≤ gT w g V * wT w b.testBit := by
  rcases h with ⟨h1, h2⟩ | ⟨h1, h2, h3, h4⟩
  · exact absurd ⟨fun _ _ h => h, fun _ _ _ _ h _ _ => h⟩ (h2 t h0 (by omega))
  · refine ⟨h1, h2, h3, fun V hV => ?_⟩
    have e : ∀ c, c < 16 → V c = (nS 16 V).testBit c := fun c hc => by rw [nS_bit]; simp [hc]
    have eg : gT w g V = gT w g (nS 16 V).testBit := sN_congr 16 fun c hc => by rw [e c hc]
    have ew : wT w V = wT w (nS 16 V).testBit := sN_congr 16 fun c hc => by rw [e c hc]
    rw [eg, ew]
    have hlo : loO D t.testBit (nS 16 V).testBit := ⟨fun c hc q => hV.1 c hc (by rw [e c hc]; exact q), fun a b ha hb hT q ho => by rw [← e b hb]; exact hV.2 a b ha hb hT (by rw [e a ha]; exact q) ho⟩
    rcases Nat.eq_zero_or_pos (nS 16 V) with z | z
    · have := wT_0 (w := w) (g := g) (T := (nS 16 V).testBit) (fun c _ => by rw [z]; exact tb0 c)
      rw [this.1, this.2]; omega
    · refine h4 _ z ?_ hlo
      have := sub_le (x := nS 16 V) (t := t) fun k hk => by
        have hk16 : k < 16 := by
          rw [nS_bit] at hk
          simp only [Bool.and_eq_true, decide_eq_true_eq] at hk; exact hk.1
        exact hlo.1 k hk16 hk
      omega
/-- what the table says of a set: it holds what it is over -/
theorem lay_lo {t i : Nat} {p : Nat → Bool} (hr : ∀ c, c < n → D c c = true) (hn : t < 2 ^ n) (h16 : n ≤ 16) (hp : ∀ k, k < 16 → (p k = true ↔ ∃ c, i.testBit c = true ∧ D c k = true)) (hs : ∀ c, c < 16 → i.testBit c = true → t.testBit c = true) (hi : i < 65536) : (sX p &&& nI t = nI i) ↔ loO D t.testBit i.testBit := by
  have h65 := pw_le h16
  rw [sX_nS (show t < 65536 by omega), sX_and, sX_nS hi, sX_iff]
  constructor
  · intro h
    refine ⟨hs, fun a b ha hb hT hia ho => ?_⟩
    rw [← h b hb, Bool.and_eq_true]
    exact ⟨(hp b hb).mpr ⟨a, hia, ho⟩, hT⟩
  · intro h k hk
    apply bool_eq
    rw [Bool.and_eq_true, hp k hk]
    constructor
    · rintro ⟨⟨c, hc, ho⟩, hT⟩
      have hc16 : c < 16 := by
        rcases Nat.lt_or_ge c 16 with e | e
        · exact e
        · rw [Nat.testBit_lt_two_pow (Nat.lt_of_lt_of_le hi (Nat.le_trans (by decide) (Nat.pow_le_pow_right (by decide) e)))] at hc; cases hc
      exact h.2 c k hc16 hk hT hc ho
    · intro hik
      have := hs k hk hik
      exact ⟨⟨k, hik, hr k (pw_b hn this)⟩, this⟩
theorem c217 {T : Nat → Bool} (hn : σ.1 124 38 = nI n) (h16 : n ≤ 16) (hw : ∀ c, c < n → σ.1 144 c = nI (w c) ∧ 1 ≤ w c ∧ w c ≤ 4) (hg : ∀ c, c < n → σ.1 143 c = nI (g c) ∧ g c ≤ 240) (hD : ∀ c, c < n → σ.1 149 c = sX (D c)) (hO : DOk n D) (hT : ∀ c, T c = true → c < n)
    (k : ∀ σ', Ft [151, 152, 153, 154, 155] σ σ' → SqR w g D T σ' → Q none σ') : Cm Θ (d + 4) 217 [.ref 124, .int (sX T)] σ Q := by
  have h65 := pw_le h16
  have hw4 : ∀ c, c < n → w c ≤ 4 := fun c h => (hw c h).2.2
  have hw1 : ∀ c, c < n → 0 < w c := fun c h => (hw c h).2.1
  have hg2 : ∀ c, c < n → g c ≤ 240 := fun c h => (hg c h).2
  have hT16 : ∀ c, T c = true → c < 16 := fun c h => by have := hT c h; omega
  let LS : List Nat := [151, 152, 153, 154, 155]
  have hLS : LS = [151, 152, 153, 154, 155] := rfl
  let INV : Nat → Mem → (Nat → Bool) → (Nat → Rat) → List Nat → Rat → Prop := fun t s Z f L rr =>
    t < 2 ^ n ∧ (Ft LS σ s ∧ ∀ x, x < 2 ^ n → LayA D w g x s) ∧
    ((∀ c, t.testBit c = true → Z c = false) ∧ (∀ c, Z c = true → T c = true) ∧ (∀ c, t.testBit c = true → T c = true) ∧ ∀ c, c < 16 → T c = true → Z c = true ∨ t.testBit c = true) ∧
    (∀ f', (∀ c, c < 16 → Z c = true → f' c = f c) → VI 16 D t.testBit (qF w) (qF g) f' → VI 16 D T (qF w) (qF g) f') ∧
    (∀ c, c < 16 → Z c = true → (s.2.1 154 c = jJ (f c).num ∧ s.2.1 155 c = jJ ((f c).den : Nat) ∧ (f c).den ≤ 64 ∧ 0 ≤ f c ∧ f c ≤ ((240 : Nat) : Rat))) ∧
    (rr = sT 16 Z (fun c => qF w c * ((qF g c - f c) * (qF g c - f c))) ∧ s.2.1 124 44 = jJ rr.num ∧ s.2.1 124 45 = jJ (rr.den : Nat)) ∧
    (∀ a, a ∈ L → 1 ≤ a ∧ a ≤ 64) ∧ sumL L = wT w Z ∧ rr.den ∣ lcmL L
  have main : ∀ m t s Z f L rr, wT w t.testBit ≤ m → INV t s Z f L rr → G Θ (d + 4) 217 12 [some (.ref 124), none, some (.int (nI t)), none, none, none, none, none, none] [] s Q := by
    intro m
    induction m with
    | zero =>
      intro t s Z f L rr hm ⟨ht, ⟨h1, hlay⟩, ⟨h3b, h3c, h3e, h3d⟩, h5, h6, ⟨h7, h7a, h7b⟩, h8, h9, h10⟩
      have t0 : t = 0 := by
        rcases Nat.eq_zero_or_pos t with z | z
        · exact z
        · obtain ⟨c, hc, hb⟩ := tb_pos z (by omega)
          have := wT_pos (w := w) (fun c hc h => hw1 c (hT c (h3e c h))) hc hb
          omega
      subst t0
      have eZ : ∀ c, c < 16 → Z c = T c := fun c hc' => bool_eq ⟨h3c c, fun h => by
        rcases h3d c hc' h with h | h
        · exact h
        · rw [tb0] at h; cases h⟩
      refine B217_12 ⟨fun _ => ?_, fun h => absurd nI_0 h⟩
      have wZ : wT w Z ≤ 64 := wT_b h16 (fun c h => hT c (h3c c h)) hw4
      refine k s h1 ⟨f, rr, h5 f (fun _ _ _ => rfl) (VI_none fun c _ => tb0 c), ?_, ?_, ⟨h7a, h7b⟩, fun c hc' hTc => h6 c hc' (by rw [eZ c hc']; exact hTc)⟩
      · rw [h7]; exact sQ_congr 16 fun c hc' => by rw [eZ c hc']
      · exact Nat.le_trans (Nat.le_of_dvd (lcm_pos _ fun a ha => (h8 a ha).1) h10) (lcm_64 h8 (by omega))
    | succ m ih =>
      intro t s Z f L rr hm ⟨ht, ⟨h1, hlay⟩, ⟨h3b, h3c, h3e, h3d⟩, h5, h6, ⟨h7, h7a, h7b⟩, h8, h9, h10⟩
      have wZ : wT w Z ≤ 64 := wT_b h16 (fun c h => hT c (h3c c h)) hw4
      refine B217_12 ⟨fun h => ?_, fun h => ?_⟩
      · have t0 : t = 0 := by
          rcases Nat.eq_zero_or_pos t with z | z
          · exact z
          · exact absurd h (nI_ne0 z (by omega))
        subst t0
        have eZ : ∀ c, c < 16 → Z c = T c := fun c hc' => bool_eq ⟨h3c c, fun h => by
          rcases h3d c hc' h with h | h
          · exact h
          · rw [tb0] at h; cases h⟩
        refine k s h1 ⟨f, rr, h5 f (fun _ _ _ => rfl) (VI_none fun c _ => tb0 c), ?_, ?_, ⟨h7a, h7b⟩, fun c hc' hTc => h6 c hc' (by rw [eZ c hc']; exact hTc)⟩
        · rw [h7]; exact sQ_congr 16 fun c hc' => by rw [eZ c hc']
        · exact Nat.le_trans (Nat.le_of_dvd (lcm_pos _ fun a ha => (h8 a ha).1) h10) (lcm_64 h8 (by omega))
      · have t0 : 0 < t := by
          rcases Nat.eq_zero_or_pos t with z | z
          · subst z; exact absurd nI_0 h
          · exact z
        have wpos : ∀ x, 0 < x → x < 65536 → (∀ c, c < 16 → x.testBit c = true → t.testBit c = true) → 0 < wT w x.testBit := fun x h0 hx hs => by
          obtain ⟨c, hc, hb⟩ := tb_pos h0 hx
          exact wT_pos (fun c hc h => hw1 c (hT c (h3e c (hs c hc h)))) hc hb
        have hwt : ∀ c, c < 16 → t.testBit c = true → 0 < w c := fun c _ h => hw1 c (hT c (h3e c h))
        refine loopS (α := Nat) (I := fun j b => Bst w g D t (j + 1) b) (P := fun j b => G Θ (d + 4) 217 21 [some (.ref 124), none, some (.int (nI t)), some (.int (nI b)), some (.int (nI (j + 1))), none, none, none, none] [] s Q) t ?_ ?_ 0 (Or.inl ⟨rfl, fun x h0 hx => by omega⟩)
        · intro b hb
          obtain ⟨b0, b65, bl, bm⟩ := bst_end hb t0 (by omega)
          have bt : b ≤ t := sub_le fun c hc => by
            have : c < 16 := by
              rcases Nat.lt_or_ge c 16 with e | e
              · exact e
              · rw [Nat.testBit_lt_two_pow (Nat.lt_of_lt_of_le b65 (Nat.le_trans (by decide) (Nat.pow_le_pow_right (by decide) e)))] at hc; cases hc
            exact bl.1 c this hc
          have bs : ∀ c, b.testBit c = true → t.testBit c = true := fun c hc => by
            have : c < 16 := by
              rcases Nat.lt_or_ge c 16 with e | e
              · exact e
              · rw [Nat.testBit_lt_two_pow (Nat.lt_of_lt_of_le b65 (Nat.le_trans (by decide) (Nat.pow_le_pow_right (by decide) e)))] at hc; cases hc
            exact bl.1 c this hc
          have hpb := wpos b b0 b65 (fun c _ => bs c)
          refine B217_21 ⟨fun _ => ?_, fun h => absurd (nI_lt (Nat.lt_succ_self t) (by omega)) h⟩
          obtain ⟨rr0, rr1⟩ := sq_rr (w := w) (g := g) (Z := Z) (f := f) wZ (fun c _ h => hg2 c (hT c (h3c c h))) (fun c hc h => (h6 c hc h).2.2.2)
          rw [← h7] at rr0 rr1
          have wB : wT w b.testBit ≤ 64 := wT_b h16 (fun c h => hT c (h3e c (bs c h))) hw4
          have ewt : wT w (uB Z b.testBit) = wT w b.testBit + wT w Z := by
            unfold wT
            rw [← sN_add]
            refine sN_congr 16 fun c _ => ?_
            have := fun q => h3b c (bs c q)
            cases q1 : Z c <;> cases q2 : b.testBit c <;> simp_all [uB]
          have hZS : ∀ c, uB Z b.testBit c = true → T c = true := fun c h => by
            simp only [uB, Bool.or_eq_true] at h
            rcases h with h | h
            · exact h3c c h
            · exact h3e c (bs c h)
          have wZS : wT w (uB Z b.testBit) ≤ 64 := wT_b h16 (fun c h => hT c (hZS c h)) hw4
          refine c218 (rr := rr) (L := L) (n := n) (by rw [h1.2.1]; exact hn) h16 (fun c hc => ⟨by rw [(h1.1 144 (by rw [hLS]; decide) (by decide)).1]; exact (hw c hc).1, (hw c hc).2⟩) (fun c hc => ⟨by rw [(h1.1 143 (by rw [hLS]; decide) (by decide)).1]; exact (hg c hc).1, (hg c hc).2⟩) (by omega) hpb (hlay b (by omega)) ⟨h7a, h7b⟩ h8 (by omega) h10 rr0 rr1 fun σ8 f8 g1 g2 g3 => ⟨rfl, ?_⟩
          have etd : (nS 16 (dB t.testBit b.testBit)).testBit = dB t.testBit b.testBit := nS_tb fun c h => by
            simp only [dB, Bool.and_eq_true] at h; exact hT16 c (h3e c h.1)
          have esx : nI t &&& (nI b ^^^ (-1)) = nI (nS 16 (dB t.testBit b.testBit)) := by
            rw [sX_nS (show t < 65536 by omega), sX_nS b65, sX_dif]; rfl
          rw [esx]
          have htd : nS 16 (dB t.testBit b.testBit) ≤ t := sub_le fun c h => by
            rw [etd] at h; simp only [dB, Bool.and_eq_true] at h; exact h.1
          have ewd : wT w t.testBit = wT w (dB t.testBit b.testBit) + wT w b.testBit := by
            unfold wT
            rw [← sN_add]
            refine sN_congr 16 fun c _ => ?_
            have := bs c
            cases q1 : t.testBit c <;> cases q2 : b.testBit c <;> simp_all [dB]
          have hzS : ∀ c, Z c = true → b.testBit c = false := fun c h => by
            cases q : b.testBit c
            · rfl
            · rw [h3b c (bs c q)] at h; cases h
          have f8' : Ft LS σ σ8 := h1.tr (f8.mono (by rw [hLS]; intro j hj; simp at hj ⊢; omega))
          refine ih (nS 16 (dB t.testBit b.testBit)) σ8 (uB Z b.testBit) (fun c => if b.testBit c = true then mT w g b.testBit else f c) (wT w b.testBit :: L) _ (by rw [etd]; omega) ⟨by omega, ⟨f8', fun x hx => ?_⟩, ⟨fun c h => ?_, hZS, fun c h => ?_, fun c hc' hTc => ?_⟩, fun f' hz hv => ?_, fun c hc' hZ => ?_, ⟨?_, g3.1, g3.2⟩, fun a ha => ?_, ?_, add_den hpb h10⟩
          · exact LayA_fr (hlay x hx) f8.fr (by decide)
          · rw [etd] at h
            simp only [dB, Bool.and_eq_true, Bool.not_eq_true'] at h
            simp [uB, h3b c h.1, h.2]
          · rw [etd] at h
            simp only [dB, Bool.and_eq_true] at h
            exact h3e c h.1
          · rcases h3d c hc' hTc with h | h
            · exact Or.inl (by simp [uB, h])
            · rw [etd]
              cases q : b.testBit c
              · exact Or.inr (by simp [dB, h, q])
              · exact Or.inl (by simp [uB, q])
          · rw [etd] at hv
            refine h5 f' (fun c hc' h => (hz c hc' (by simp [uB, h])).trans (if_neg (by rw [hzS c h]; decide))) ?_
            exact sq_low hwt hpb bl bm hv fun c hc' h => (hz c hc' (by simp [uB, h])).trans (if_pos h)
          · show (σ8.2.1 154 c = jJ (if b.testBit c = true then mT w g b.testBit else f c).num ∧ σ8.2.1 155 c = jJ ((if b.testBit c = true then mT w g b.testBit else f c).den : Nat) ∧ (if b.testBit c = true then mT w g b.testBit else f c).den ≤ 64 ∧ 0 ≤ (if b.testBit c = true then mT w g b.testBit else f c) ∧ (if b.testBit c = true then mT w g b.testBit else f c) ≤ ((240 : Nat) : Rat))
            by_cases q : b.testBit c = true
            · have bb := mT_in (w := w) (g := g) hpb (fun c h => hg2 c (hT c (h3e c (bs c h))))
              rw [if_pos q]
              exact ⟨(g1 c q).1, (g1 c q).2, mT_den hpb wB, bb.1, bb.2⟩
            · have hZc : Z c = true := by simp only [uB, Bool.or_eq_true] at hZ; rcases hZ with h | h; exact h; exact absurd h q
              rw [if_neg q, (g2 c (hzS c hZc)).1, (g2 c (hzS c hZc)).2]
              exact h6 c hc' hZc
          · rw [h7, ← sq_cost hpb]
            have hpart : ∀ c, c < 16 → (uB Z b.testBit c = true ↔ Z c = true ∨ b.testBit c = true) ∧ ¬ (Z c = true ∧ b.testBit c = true) := fun c _ => ⟨by simp [uB], fun h => by rw [hzS c h.1] at h; exact absurd h.2 (by decide)⟩
            rw [sT_parts _ hpart]
            congr 1
            · exact sT_congr fun c _ h => by
                have q' := hzS c h
                have q : ¬ b.testBit c = true := by rw [q']; decide
                show qF w c * ((qF g c - f c) * (qF g c - f c)) = qF w c * ((qF g c - (if b.testBit c = true then mT w g b.testBit else f c)) * (qF g c - (if b.testBit c = true then mT w g b.testBit else f c)))
                rw [if_neg q]
            · exact sT_congr fun c _ h => by
                show _ = qF w c * ((qF g c - (if b.testBit c = true then mT w g b.testBit else f c)) * (qF g c - (if b.testBit c = true then mT w g b.testBit else f c)))
                rw [if_pos h]
          · rcases List.mem_cons.mp ha with rfl | ha
            · exact ⟨hpb, wB⟩
            · exact h8 a ha
          · show wT w b.testBit + sumL L = wT w (uB Z b.testBit)
            rw [ewt, h9]
        · intro j b hj hb ih2
          have b65 : b < 65536 := by rcases hb with ⟨h1, _⟩ | ⟨_, h2, _⟩ <;> omega
          have i65 : j + 1 < 65536 := by omega
          have vi := vp_in_nI (show j + 1 < 65536 by omega) (by decide)
          have vb := vp_in_nI (show b < 65536 by omega) (by decide)
          refine B217_21 ⟨fun h => absurd h (nI_nlt (by omega) (by omega)), fun _ => ?_⟩
          have esub : (nI (j + 1) &&& (nI t ^^^ (-1))) = 0 ↔ ∀ c, c < 16 → (j + 1).testBit c = true → t.testBit c = true := by
            rw [sX_nS i65, sX_nS (show t < 65536 by omega), sX_dif, sX_eq0]
            exact ⟨fun h c hc q => by have := h c hc; cases z : t.testBit c <;> simp_all, fun h c hc => by have := h c hc; cases z : (j + 1).testBit c <;> simp_all⟩
          rw [nI_1]
          refine ⟨fun h => ih2 b (bst_skip hb fun q => h (esub.mpr q.1)), fun h => ⟨vi, ?_⟩⟩
          have hs := esub.mp h
          obtain ⟨⟨p, hp1, hp2⟩, hq, hv⟩ := hlay (j + 1) (by omega)
          have ecl := lay_lo (i := j + 1) (p := p) hO.1 ht h16 hp2 hs i65
          rw [nI_clamp (show j + 1 < 2147483648 by omega), nI_clamp (show b < 2147483648 by omega), hp1]
          refine ⟨fun h2 => ⟨vi, vb, vb, vi, fun h3 => ?_, fun h3 => ?_⟩, fun h2 => ih2 b (bst_skip hb fun q => h2 (ecl.mpr q))⟩
          · have hlo := ecl.mp h2
            have b0 : b = 0 := by
              rcases Nat.eq_zero_or_pos b with z | z
              · exact z
              · exact absurd h3 (nI_ne0 z (by omega))
            exact ih2 (j + 1) (bst_new hb (by omega) i65 hlo hwt (Or.inl b0))
          · have hlo := ecl.mp h2
            have b0 : 0 < b := by
              rcases Nat.eq_zero_or_pos b with z | z
              · subst z; exact absurd nI_0 h3
              · exact z
            have hbl : loO D t.testBit b.testBit := by
              rcases hb with ⟨h1, _⟩ | ⟨_, _, h3, _⟩
              · omega
              · exact h3
            have hbt : ∀ c, b.testBit c = true → t.testBit c = true := fun c hc => by
              have : c < 16 := by
                rcases Nat.lt_or_ge c 16 with e | e
                · exact e
                · rw [Nat.testBit_lt_two_pow (Nat.lt_of_lt_of_le b65 (Nat.le_trans (by decide) (Nat.pow_le_pow_right (by decide) e)))] at hc; cases hc
              exact hbl.1 c this hc
            have hit : ∀ c, (j + 1).testBit c = true → t.testBit c = true := fun c hc => by
              have : c < 16 := by
                rcases Nat.lt_or_ge c 16 with e | e
                · exact e
                · rw [Nat.testBit_lt_two_pow (Nat.lt_of_lt_of_le i65 (Nat.le_trans (by decide) (Nat.pow_le_pow_right (by decide) e)))] at hc; cases hc
              exact hlo.1 c this hc
            have b2n : b < 2 ^ n := by have := sub_le hbt; omega
            obtain ⟨-, hq', hv'⟩ := hlay b b2n
            have w1 : wT w b.testBit ≤ 64 := wT_b h16 (fun c h => hT c (h3e c (hbt c h))) hw4
            have w2 : wT w (j + 1).testBit ≤ 64 := wT_b h16 (fun c h => hT c (h3e c (hit c h))) hw4
            have g1 : gT w g b.testBit ≤ 15360 := gT_b (fun c h => hT c (h3e c (hbt c h))) hw4 hg2
            have g2 : gT w g (j + 1).testBit ≤ 15360 := gT_b (fun c h => hT c (h3e c (hit c h))) hw4 hg2
            rw [hq, hv, hq', hv', nI_j (show wT w (j + 1).testBit < 2 ^ 31 by omega), nI_j (show gT w g (j + 1).testBit < 2 ^ 31 by omega), nI_j (show wT w b.testBit < 2 ^ 31 by omega), nI_j (show gT w g b.testBit < 2 ^ 31 by omega), jJ_mul, jJ_mul, ← Int.natCast_mul, ← Int.natCast_mul]
            have m1 : gT w g (j + 1).testBit * wT w b.testBit ≤ 15360 * 64 := Nat.mul_le_mul g2 w1
            have m2 : gT w g b.testBit * wT w (j + 1).testBit ≤ 15360 * 64 := Nat.mul_le_mul g1 w2
            rw [lc_ge, lc_eq, jJ_leN (by omega) (by omega), jJ_eqN (by omega) (by omega)]
            refine ⟨fun h4 => ⟨fun h5 => ih2 b (bst_keep hb b0 h4), fun h5 => ?_⟩, fun h4 => ih2 (j + 1) (bst_new hb (by omega) i65 hlo hwt (Or.inr (by omega)))⟩
            rw [nI_or]
            exact ih2 _ (bst_both hb b0 (by omega) i65 hlo hwt h5)
  refine K217 (B217_0 ?_)
  refine c216 hn h16 (fun c hc => (hw c hc).1) (fun c hc => (hg c hc).1) hD fun σ1 f1 hlay => ⟨rfl, ?_⟩
  have z0 : (0 : Int64) = jJ 0 := rfl
  have z1 : (1 : Int64) = jJ ((1 : Nat) : Int) := rfl
  rw [z0, z1]
  refine c211 (by decide) (by decide) (by decide) (by decide) ⟨rfl, ?_⟩
  have f2 : Ft LS σ (frW σ1 124 44 45 (mkRat 0 1)) := Ft.fw ((Ft.of f1 (by decide)).mono (by rw [hLS]; intro j hj; simp at hj ⊢; omega)) _
  have fs : Fr [124] σ1 (frW σ1 124 44 45 (mkRat 0 1)) := (Fr.rfl.L (by simp)).L (by simp)
  have eT : (nS 16 T).testBit = T := nS_tb hT16
  have s00 : sT 16 (fun _ => false) (fun c => qF w c * ((qF g c - (0 : Rat)) * (qF g c - (0 : Rat)))) = 0 := by
    rw [sT, sQ_congr 16 (g := fun _ => 0) (fun c _ => by simp), sQ_zero]
  have tn : nS 16 T < 2 ^ n := Nat.lt_pow_two_of_testBit _ fun i hi => by
    rw [eT]
    cases q : T i
    · rfl
    · have := hT i q; omega
  refine main _ (nS 16 T) _ (fun _ => false) (fun _ => 0) [] 0 (Nat.le_refl _) ⟨tn, ⟨f2, fun x hx => LayA_fr (hlay x hx) fs (by decide)⟩, ⟨fun _ _ => rfl, fun _ h => (by cases h), fun c h => by rw [eT] at h; exact h, fun c _ h => Or.inr (by rw [eT]; exact h)⟩, fun f' _ hv => by rw [eT] at hv; exact hv, fun _ _ h => (by cases h), ⟨s00.symm, by rw [frW, sL_of _ _ (by omega), sL_at]; rfl, by rw [frW, sL_at]; rfl⟩, fun _ h => (by cases h), rfl, Nat.dvd_refl 1⟩
end rsq
