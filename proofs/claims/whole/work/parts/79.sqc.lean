/-! CONTRACTS: the class's fit by squares -/
theorem lN_jJ (n : Nat) : lN n = jJ (n : Int) := (Int64.ofInt_eq_ofNat).symm
theorem nI_j {n : Nat} (h : n < 2 ^ 31) : (nI n).toInt64 = jJ (n : Int) := by rw [nI_l h, lN_jJ]
theorem sN_cut {f : Nat → Nat} {n : Nat} (hn : n ≤ 16) (h : ∀ c, n ≤ c → f c = 0) : sN 16 f = sN n f := by
  have : ∀ m, sN (n + m) f = sN n f := by
    intro m
    induction m with
    | zero => rfl
    | succ m ih => show sN (n + m) f + f (n + m) = sN n f; rw [ih, h _ (by omega)]; rfl
  have h2 := this (16 - n)
  rw [show n + (16 - n) = 16 by omega] at h2; exact h2
/-- what a fit reads: cases, what was given, weights; those over each -/
def Fit (r l : Nat) (B : Bk) (D : Nat → Nat → Bool) (σ : Mem) : Prop :=
  ((r = 12 ∨ r = 22) ∧ (l = 8 ∨ l = 85)) ∧ (σ.1 r 4 = nI (bN B) ∧ bN B ≤ 16) ∧ (∀ c, c < bN B → (σ.1 (r + 5) c = nI (bG B c) ∧ bG B c ≤ 240) ∧ σ.1 (r + 6) c = nI (bW B c) ∧ 1 ≤ bW B c ∧ bW B c ≤ 4) ∧ ∀ c, c < 16 → σ.1 l c = sX (fun b => D b c)
def DOk (n : Nat) (D : Nat → Nat → Bool) : Prop := (∀ a, a < n → D a a = true) ∧ (∀ a b c, D a b = true → D b c = true → D a c = true) ∧ ∀ a b, D a b = true → a < n ∧ b < n
theorem Fit_fr {r l : Nat} {B : Bk} {D : Nat → Nat → Bool} {σ σ' : Mem} {ls : List Nat} (h : Fit r l B D σ) (hf : Fr ls σ σ') (h1 : 8 ∉ ls ∧ 85 ∉ ls ∧ 12 ∉ ls ∧ 17 ∉ ls ∧ 18 ∉ ls ∧ 22 ∉ ls ∧ 27 ∉ ls ∧ 28 ∉ ls) : Fit r l B D σ' := by
  obtain ⟨⟨hr, hl⟩, ⟨a1, a2⟩, a3, a4⟩ := h
  have e0 : σ'.1 r = σ.1 r := (hf r (by rcases hr with rfl | rfl; exact h1.2.2.1; exact h1.2.2.2.2.2.1)).1
  have e5 : σ'.1 (r + 5) = σ.1 (r + 5) := (hf (r + 5) (by rcases hr with rfl | rfl; exact h1.2.2.2.1; exact h1.2.2.2.2.2.2.1)).1
  have e6 : σ'.1 (r + 6) = σ.1 (r + 6) := (hf (r + 6) (by rcases hr with rfl | rfl; exact h1.2.2.2.2.1; exact h1.2.2.2.2.2.2.2)).1
  have el : σ'.1 l = σ.1 l := (hf l (by rcases hl with rfl | rfl; exact h1.1; exact h1.2.1)).1
  exact ⟨⟨hr, hl⟩, ⟨by rw [e0]; exact a1, a2⟩, fun c hc => by rw [e5, e6]; exact a3 c hc, fun c hc => by rw [el]; exact a4 c hc⟩
theorem upO_ow {ov : Nat → Nat → Bool} {T V : Nat → Bool} : upO 16 (fun x y => ov x y || decide (x = y)) T V ↔ upO 16 ov T V := by
  constructor
  · exact fun h => ⟨h.1, fun a b ha hb hT hV ho => h.2 a b ha hb hT hV (by simp [ho])⟩
  · refine fun h => ⟨h.1, fun a b ha hb hT hV ho => ?_⟩
    simp only [Bool.or_eq_true, decide_eq_true_eq] at ho
    rcases ho with ho | rfl
    · exact h.2 a b ha hb hT hV ho
    · exact hV
theorem MX_ow {ov : Nat → Nat → Bool} {T U : Nat → Bool} {a : Nat → Int} (h : MX 16 (fun x y => ov x y || decide (x = y)) T a U) : MX 16 ov T a U :=
  ⟨upO_ow.mp h.1, fun V hV => h.2 V (upO_ow.mpr hV)⟩
theorem wT_b {w : Nat → Nat} {T : Nat → Bool} {n : Nat} (hn : n ≤ 16) (hT : ∀ c, T c = true → c < n) (hw : ∀ c, c < n → w c ≤ 4) : wT w T ≤ 64 :=
  sN_b (b := 4) 16 fun c _ => by
    by_cases q : T c = true
    · rw [if_pos q]; exact hw c (hT c q)
    · rw [if_neg q]; omega
theorem gT_b {w g : Nat → Nat} {T : Nat → Bool} {n : Nat} (hT : ∀ c, T c = true → c < n) (hw : ∀ c, c < n → w c ≤ 4) (hg : ∀ c, c < n → g c ≤ 240) : gT w g T ≤ 15360 :=
  sN_b (b := 960) 16 fun c _ => by
    by_cases q : T c = true
    · rw [if_pos q]; exact Nat.mul_le_mul (hw c (hT c q)) (hg c (hT c q))
    · rw [if_neg q]; omega
theorem qT_b {w g : Nat → Nat} {T : Nat → Bool} {n : Nat} (hT : ∀ c, T c = true → c < n) (hw : ∀ c, c < n → w c ≤ 4) (hg : ∀ c, c < n → g c ≤ 240) : qT w g T ≤ 3686400 :=
  sN_b (b := 230400) 16 fun c _ => by
    by_cases q : T c = true
    · rw [if_pos q]; exact Nat.mul_le_mul (Nat.mul_le_mul (hw c (hT c q)) (hg c (hT c q))) (hg c (hT c q))
    · rw [if_neg q]; omega
section sqc
variable {Θ : Th} {d : Nat} {σ : Mem} {Q : Po} {o r l : Nat} {B : Bk} {D : Nat → Nat → Bool} {T : Nat → Bool}
theorem near_s {o : Nat} (h : o = 92 ∨ o = 101) : (shq o).1 = 7 ∧ (shq (o + 4)).1 = 5 ∧ (shq (o + 8)).1 = 5 := by rcases h with rfl | rfl <;> exact ⟨rfl, rfl, rfl⟩
theorem c69 (ho : o = 92 ∨ o = 101) (hF : Fit r l B D σ) (hD : DOk (bN B) D) (hT : ∀ c, T c = true → c < bN B)
    (k : ∀ σ' U, Fr [86, 87, 88, 89, 90, 91] σ σ' → MX 16 D T (wo (bW B) (bG B) T) U → (∀ c, U c = true → T c = true) → Q (some (.int (sX U))) σ') : Cm Θ (d + 4) 69 [.ref o, .ref r, .ref l, .int (sX T)] σ Q := by
  obtain ⟨⟨hr, hl⟩, ⟨hn, h16⟩, hc, hrow⟩ := id hF
  have hls := l_shq hl
  have hw4 : ∀ c, c < bN B → bW B c ≤ 4 := fun c h => (hc c h).2.2.2
  have hg2 : ∀ c, c < bN B → bG B c ≤ 240 := fun c h => (hc c h).1.2
  have bW' := wT_b (w := bW B) (T := T) h16 hT hw4
  have bG' := gT_b (w := bW B) (g := bG B) (T := T) hT hw4 hg2
  have eW : sN 16 (fun c => if T c = true then bW B c else 0) = sN (bN B) (fun c => if T c = true then bW B c else 0) := sN_cut h16 fun c h => if_neg fun q => by have := hT c q; omega
  have eG : sN 16 (fun c => if T c = true then bW B c * bG B c else 0) = sN (bN B) (fun c => if T c = true then bW B c * bG B c else 0) := sN_cut h16 fun c h => if_neg fun q => by have := hT c q; omega
  refine K69 (n2 := 16) (B69_0 (near_s ho).1 (bk_s hr) hls.2 ?_)
  refine loopN (P := fun i => G Θ (d + 4) 69 9 [some (.ref o), some (.ref r), some (.ref l), some (.int (sX T)), some (.int (nI (sN i (fun c => if T c = true then bW B c else 0)))), some (.int (nI (sN i (fun c => if T c = true then bW B c * bG B c else 0)))), some (.int (nI i))] [] σ Q) (bN B) ?_ ?_
  · refine B69_9 (near_s ho).1 (bk_s hr) hls.2 ⟨fun _ => ?_, fun h => absurd (by rw [hn]; exact nI_le (Nat.le_refl _) (by omega)) h⟩
    rw [← eW, ← eG]
    show G Θ (d + 4) 69 68 [some (.ref o), some (.ref r), some (.ref l), some (.int (sX T)), some (.int (nI (wT (bW B) T))), some (.int (nI (gT (bW B) (bG B) T))), some (.int (nI 0))] [] σ Q
    refine loopS (α := Mem) (I := fun i s => Fr [87] σ s ∧ ∀ c, c < i → s.1 87 c = iI (wo (bW B) (bG B) T c)) (P := fun i s => G Θ (d + 4) 69 68 [some (.ref o), some (.ref r), some (.ref l), some (.int (sX T)), some (.int (nI (wT (bW B) T))), some (.int (nI (gT (bW B) (bG B) T))), some (.int (nI i))] [] s Q) (bN B) ?_ ?_ σ ⟨Fr.rfl, fun c h => absurd h (Nat.not_lt_zero _)⟩
    · intro s ⟨hf, hs⟩
      have hF' := Fit_fr hF hf (by decide)
      refine B69_68 (near_s ho).1 (bk_s hr) hls.2 ⟨fun _ => ?_, fun h => absurd (by rw [hF'.2.1.1]; exact nI_le (Nat.le_refl _) (by omega)) h⟩
      have hM : aM T (wo (bW B) (bG B) T) := by
        intro c _ hTc
        have hcn := hT c hTc
        have h1 := hw4 c hcn
        have h2 := hg2 c hcn
        have h3 : bG B c * wT (bW B) T ≤ 240 * 64 := Nat.mul_le_mul h2 bW'
        have h4 : ((bG B c : Int) * (wT (bW B) T : Int)) = ((bG B c * wT (bW B) T : Nat) : Int) := (Int.natCast_mul _ _).symm
        unfold wo
        rw [h4]
        generalize bG B c * wT (bW B) T = x at h3 ⊢
        generalize gT (bW B) (bG B) T = y at bG' ⊢
        have h5 : ((x : Int) - (y : Int)).natAbs ≤ 15360 := by omega
        have h6 : ((bW B c : Int) * ((x : Int) - (y : Int))).natAbs ≤ 4 * 15360 := by
          rw [Int.natAbs_mul]; exact Nat.mul_le_mul (by simpa using h1) h5
        omega
      refine c40 hM (fun c h => by have := hT c h; omega) hl (fun c _ h => hD.1 c (hT c h)) (fun x y z _ _ _ => hD.2.1 x y z) (fun x y h => by have := (hD.2.2 x y h).1; omega) (fun c _ h => hs c (hT c h)) (fun c h16' _ => hF'.2.2.2 c h16') fun σ' U hf' hMX hU => ⟨_, rfl, ?_⟩
      exact k σ' U ((hf.mono (by simp)).tr (hf'.mono (by intro j hj; simp at hj ⊢; omega))) (MX_ow hMX) hU
    · intro i s hi ⟨hf, hs⟩ ih
      have hF' := Fit_fr hF hf (by decide)
      have v := vp_in_nI (show i < 16 by omega) (by decide)
      refine B69_68 (near_s ho).1 (bk_s hr) hls.2 ⟨fun h => absurd h (by rw [hF'.2.1.1]; exact nI_ge hi (by omega)), fun _ => ⟨v, v, v, ?_⟩⟩
      have ci := hF'.2.2.1 i hi
      rw [nI_1, nI_clamp (by omega), ci.1.1, ci.2.1]
      have e : nI (bW B i) * (nI (bG B i) * nI (wT (bW B) T) - nI (gT (bW B) (bG B) T)) = iI (wo (bW B) (bG B) T i) := by
        rw [iI_nI, iI_nI, iI_nI, iI_nI, iI_mul, iI_sub, iI_mul]; rfl
      rw [e]
      refine ih _ ⟨hf.I (by simp), fun c hc' => ?_⟩
      by_cases z : c = i
      · rw [z, sI_at]
      · rw [sI_of _ _ (by omega)]; exact hs c (by omega)
  · intro i hi ih
    have v := vp_in_nI (show i < 16 by omega) (by decide)
    refine B69_9 (near_s ho).1 (bk_s hr) hls.2 ⟨fun h => absurd h (by rw [hn]; exact nI_ge hi (by omega)), fun _ => ?_⟩
    rw [sX_shr _ (by omega), nI_1, nI_clamp (by omega)]
    have s1 : sN (i + 1) (fun c => if T c = true then bW B c else 0) = sN i (fun c => if T c = true then bW B c else 0) + (if T i = true then bW B i else 0) := rfl
    have s2 : sN (i + 1) (fun c => if T c = true then bW B c * bG B c else 0) = sN i (fun c => if T c = true then bW B c * bG B c else 0) + (if T i = true then bW B i * bG B i else 0) := rfl
    rw [s1, s2] at ih
    refine ⟨fun h => ?_, fun h => ⟨v, v, v, ?_⟩⟩
    · rw [b01_0] at h
      rw [h] at ih; exact ih
    · rw [b01_n] at h
      rw [(hc i hi).1.1, (hc i hi).2.1, pk_mul, nI_add, nI_add]
      rw [h] at ih; exact ih
end sqc
