/-! KEPT BY GAPS: those kept above x are the choice of most worth, where being given more counts for; just one such. The class's way to it -/
def aG (w g : Nat → Nat) (x : Int) (c : Nat) : Int := if x < (g c : Int) then (w c : Int) else -(w c : Int)
def KG (w g : Nat → Nat) (ov : Nat → Nat → Bool) (T : Nat → Bool) (f : Nat → Nat) : Prop := ∀ x : Int, -1 ≤ x → MX 16 ov T (aG w g x) (fun c => T c && decide (x < (f c : Int)))
theorem kg_one {w g : Nat → Nat} {ov : Nat → Nat → Bool} {T : Nat → Bool} {f f' : Nat → Nat} (h : KG w g ov T f) (h' : KG w g ov T f') : ∀ c, c < 16 → T c = true → f c = f' c := by
  intro c hc hT
  rcases Nat.lt_trichotomy (f c) (f' c) with q | q | q
  · have e := MX_one (h (f c) (by omega)) (h' (f c) (by omega)) c hc
    have e1 : decide (((f c : Nat) : Int) < (f c : Nat)) = false := decide_eq_false (by omega)
    have e2 : decide (((f c : Nat) : Int) < (f' c : Nat)) = true := decide_eq_true (by omega)
    simp only [hT, e1, e2] at e; cases e
  · exact q
  · have e := MX_one (h (f' c) (by omega)) (h' (f' c) (by omega)) c hc
    have e1 : decide (((f' c : Nat) : Int) < (f' c : Nat)) = false := decide_eq_false (by omega)
    have e2 : decide (((f' c : Nat) : Int) < (f c : Nat)) = true := decide_eq_true (by omega)
    simp only [hT, e1, e2] at e; cases e
theorem aG_mono {w g : Nat → Nat} {x y : Int} (h : x ≤ y) (c : Nat) : aG w g y c ≤ aG w g x c := by
  unfold aG
  split <;> split <;> omega
theorem sS_none (a : Nat → Int) : sS 16 (fun _ => false) a = 0 := by rw [sS, sZ_congr 16 (g := fun _ => 0) (fun _ _ => by simp), sZ_zero]
theorem MX_neg {ov : Nat → Nat → Bool} {T : Nat → Bool} {a : Nat → Int} (ha : ∀ c, c < 16 → T c = true → a c ≤ 0) : MX 16 ov T a (fun _ => false) := by
  refine ⟨⟨fun _ _ h => (by cases h), fun _ _ _ _ _ h _ => (by cases h)⟩, fun V hV => ⟨?_, fun _ c _ h => (by cases h)⟩⟩
  rw [sS_none]
  have := sZ_le (f := fun c => if V c = true then a c else 0) (g := fun _ => 0) 16 (fun c hc => by
    by_cases z : V c = true
    · rw [if_pos z]; exact ha c hc (hV.1 c hc z)
    · rw [if_neg z]; exact Int.le_refl 0)
  rw [sZ_zero] at this; exact this
theorem MX_pos {ov : Nat → Nat → Bool} {T : Nat → Bool} {a : Nat → Int} (ha : ∀ c, c < 16 → T c = true → 0 < a c) : MX 16 ov T a T := by
  refine ⟨⟨fun _ _ h => h, fun _ _ _ _ h _ _ => h⟩, fun V hV => ?_⟩
  have h1 := sS_dif 16 T V a
  have h2 : sS 16 (nB T V) a = sS 16 V a := sS_congr fun c hc => ⟨by have := hV.1 c hc; cases q : V c <;> simp_all [nB], fun _ => rfl⟩
  have hpos : ∀ c, c < 16 → 0 ≤ (fun c => if dB T V c = true then a c else 0) c := fun c hc => by
    show 0 ≤ (if dB T V c = true then a c else 0)
    by_cases z : dB T V c = true
    · rw [if_pos z]
      simp only [dB, Bool.and_eq_true] at z
      have := ha c hc z.1; omega
    · rw [if_neg z]; exact Int.le_refl 0
  have h3 : 0 ≤ sS 16 (dB T V) a := sZ_nonneg 16 hpos
  refine ⟨by omega, fun e c hc hT => ?_⟩
  have h4 : sS 16 (dB T V) a ≤ 0 := by omega
  have h5 := sZ_eq0 16 hpos h4 c hc
  have h5 : (if dB T V c = true then a c else 0) = 0 := h5
  cases q : V c
  · rw [if_pos (by simp [dB, hT, q])] at h5
    have := ha c hc hT; omega
  · rfl
theorem MX_no {ov : Nat → Nat → Bool} {a : Nat → Int} : MX 16 ov (fun _ => false) a (fun _ => false) := MX_neg fun _ _ h => (by cases h)
/-- one more level: those of R who aren't kept above it are kept at it -/
def Lev (w g : Nat → Nat) (ov : Nat → Nat → Bool) (T R : Nat → Bool) (lv : Int) (f : Nat → Nat) : Prop :=
  MX 16 ov T (aG w g lv) R ∧ (∀ x : Int, -1 ≤ x → x ≤ lv → MX 16 ov T (aG w g x) (fun c => T c && (R c || decide (x < (f c : Int))))) ∧ (∀ c, T c = true → R c = false → (f c : Int) ≤ lv) ∧ ∀ c, R c = true → T c = true
theorem lev_next {w g : Nat → Nat} {ov : Nat → Nat → Bool} {T R U : Nat → Bool} {lv : Int} {f : Nat → Nat} {L : Nat} (h : Lev w g ov T R lv f) (hL : lv < L) (hm : ∀ c, R c = true → lv < g c → L ≤ g c) (hU : MX 16 ov R (aG w g L) U) (hUR : ∀ c, U c = true → R c = true) :
    Lev w g ov T U L (fun c => if R c = true ∧ U c = false then L else f c) := by
  obtain ⟨h1, h2, h3, h4⟩ := h
  have hLU : MX 16 ov T (aG w g L) U := MX_nest h1 (fun c _ _ => aG_mono (by omega) c) hU
  refine ⟨hLU, fun x hx0 hx => ?_, fun c hT hc => ?_, fun c hc => h4 c (hUR c hc)⟩
  · rcases Int.lt_or_le lv x with q | q
    · rcases Int.lt_or_le x L with q2 | q2
      · -- between: none of R was given so much
        have hself : MX 16 ov R (aG w g x) R := MX_congr (fun _ _ => rfl) (fun _ _ => rfl) (fun c _ hc => by
          unfold aG
          rcases Int.lt_or_le lv (g c) with z | z
          · have := hm c hc z
            rw [if_pos z, if_pos (by omega)]
          · rw [if_neg (by omega), if_neg (by omega)]) (MX_self h1)
        refine MX_congr (fun _ _ => rfl) (fun c _ => ?_) (fun _ _ _ => rfl) (MX_nest h1 (fun c _ _ => aG_mono (by omega) c) hself)
        show R c = (T c && (U c || decide (x < ((if R c = true ∧ U c = false then L else f c : Nat) : Int))))
        have hu := hUR c
        have ht := h4 c
        have h3c := h3 c
        cases hR : R c
        · have hUc : U c = false := by cases z : U c; rfl; rw [hu z] at hR; cases hR
          cases hT : T c
          · rfl
          · have := h3c hT hR
            rw [if_neg (fun z => by cases z.1), hUc, decide_eq_false (by omega)]; rfl
        · rw [ht hR]
          cases hUc : U c
          · rw [if_pos ⟨rfl, rfl⟩, decide_eq_true q2]; rfl
          · rfl
      · have e : x = (L : Int) := by omega
        subst e
        refine MX_congr (fun _ _ => rfl) (fun c _ => ?_) (fun _ _ _ => rfl) hLU
        show U c = (T c && (U c || decide (((L : Nat) : Int) < ((if R c = true ∧ U c = false then L else f c : Nat) : Int))))
        have hu := hUR c
        have ht := h4 c
        have h3c := h3 c
        cases hUc : U c
        · cases hR : R c
          · cases hT : T c
            · rfl
            · have := h3c hT hR
              rw [if_neg (fun z => by cases z.1), decide_eq_false (by omega)]; rfl
          · rw [if_pos ⟨rfl, rfl⟩, decide_eq_false (by omega)]; cases T c <;> rfl
        · rw [ht (hu hUc)]; rfl
    · refine MX_congr (fun _ _ => rfl) (fun c _ => ?_) (fun _ _ _ => rfl) (h2 x hx0 q)
      show (T c && (R c || decide (x < (f c : Int)))) = (T c && (U c || decide (x < ((if R c = true ∧ U c = false then L else f c : Nat) : Int))))
      have hu := hUR c
      cases hR : R c
      · have hUc : U c = false := by cases z : U c; rfl; rw [hu z] at hR; cases hR
        rw [hUc, if_neg (fun z => by cases z.1)]
      · cases hUc : U c
        · rw [if_pos ⟨rfl, rfl⟩, decide_eq_true (show x < (L : Int) by omega)]; rfl
        · rfl
  · show ((if R c = true ∧ U c = false then L else f c : Nat) : Int) ≤ L
    by_cases z : R c = true ∧ U c = false
    · rw [if_pos z]; exact Int.le_refl _
    · rw [if_neg z]
      have hR : R c = false := by
        cases q : R c
        · rfl
        · exact absurd ⟨q, hc⟩ z
      have := h3 c hT hR; omega
theorem lev_end {w g : Nat → Nat} {ov : Nat → Nat → Bool} {T R : Nat → Bool} {lv : Int} {f : Nat → Nat} (h : Lev w g ov T R lv f) (hR : ∀ c, c < 16 → R c = false) : KG w g ov T f := by
  obtain ⟨h1, h2, h3, h4⟩ := h
  intro x hx
  rcases Int.lt_or_le lv x with q | q
  · have h5 : MX 16 ov T (aG w g lv) (fun _ => false) := MX_congr (fun _ _ => rfl) hR (fun _ _ _ => rfl) h1
    refine MX_congr (fun _ _ => rfl) (fun c hc => ?_) (fun _ _ _ => rfl) (MX_nest h5 (fun c _ _ => aG_mono (by omega) c) MX_no)
    show false = (T c && decide (x < (f c : Int)))
    cases hT : T c
    · rfl
    · have := h3 c hT (hR c hc)
      rw [decide_eq_false (by omega)]; rfl
  · refine MX_congr (fun _ _ => rfl) (fun c hc => ?_) (fun _ _ _ => rfl) (h2 x hx q)
    show (T c && (R c || decide (x < (f c : Int)))) = (T c && decide (x < (f c : Int)))
    rw [hR c hc]; rfl
/-- some of those that are kept above lv were given more -/
theorem lev_some {w g : Nat → Nat} {ov : Nat → Nat → Bool} {T R : Nat → Bool} {lv : Int} {f : Nat → Nat} (h : Lev w g ov T R lv f) (hR : ∃ c, c < 16 ∧ R c = true) : ∃ c, c < 16 ∧ R c = true ∧ lv < g c := by
  refine Classical.byContradiction fun q => ?_
  have hneg : ∀ c, c < 16 → R c = true → aG w g lv c ≤ 0 := fun c hc hh => by
    unfold aG
    rw [if_neg (fun z => q ⟨c, hc, hh, z⟩)]; omega
  have h5 := MX_one (MX_self h.1) (MX_neg hneg)
  obtain ⟨c, hc, hh⟩ := hR
  have := h5 c hc
  rw [hh] at this; cases this
section gaps
variable {Θ : Th} {d : Nat} {σ : Mem} {Q : Po} {o r l : Nat} {B : Bk} {D : Nat → Nat → Bool} {T : Nat → Bool}
theorem c74 {lv : Int} (hF : Fit r l B D σ) (hlv : -1 ≤ lv ∧ lv ≤ 240) (hT : ∀ c, T c = true → c < bN B) (hex : ∃ c, T c = true ∧ lv < bG B c)
    (k : ∀ L : Nat, L ≤ 240 → lv < L → (∃ c, T c = true ∧ bG B c = L) → (∀ c, T c = true → lv < bG B c → L ≤ bG B c) → Q (some (.int (nI L))) σ) : Cm Θ (d + 1) 74 [.ref r, .int (sX T), .int (iI lv)] σ Q := by
  obtain ⟨⟨hr, hl⟩, ⟨hn, h16⟩, hc, hrow⟩ := id hF
  refine K74 (B74_0 (bk_s hr) ?_)
  refine loopS (α := Nat) (I := fun i v => v ≤ 240 ∧ (v = 240 ∨ ∃ c, T c = true ∧ lv < bG B c ∧ bG B c = v) ∧ ∀ c, c < i → T c = true → lv < bG B c → v ≤ bG B c) (P := fun i v => G Θ (d + 1) 74 7 [some (.ref r), some (.int (sX T)), some (.int (iI lv)), some (.int (nI v)), some (.int (nI i))] [] σ Q) (bN B) ?_ ?_ 240 ⟨Nat.le_refl _, Or.inl rfl, fun c h => absurd h (Nat.not_lt_zero _)⟩
  · intro v ⟨h1, h2, h3⟩
    refine B74_7 (bk_s hr) ⟨fun _ => ?_, fun h => absurd (by rw [hn]; exact nI_le (Nat.le_refl _) (by omega)) h⟩
    obtain ⟨c0, hc0, hg0⟩ := hex
    have b0 := h3 c0 (hT c0 hc0) hc0 hg0
    have b1 := (hc c0 (hT c0 hc0)).1.2
    rcases h2 with h2 | ⟨c1, a1, a2, a3⟩
    · exact k v h1 (by omega) ⟨c0, hc0, by omega⟩ fun c hh => h3 c (hT c hh) hh
    · exact k v h1 (by omega) ⟨c1, a1, a3⟩ fun c hh => h3 c (hT c hh) hh
  · intro i v hi ⟨h1, h2, h3⟩ ih
    have vi := vp_in_nI (show i < 16 by omega) (by decide)
    refine B74_7 (bk_s hr) ⟨fun h => absurd h (by rw [hn]; exact nI_ge hi (by omega)), fun _ => ?_⟩
    have gi := (hc i hi).1
    rw [sX_shr _ (by omega), nI_1, nI_clamp (by omega), gi.1, nI_min (by omega) (by omega), iI_nI (bG B i), iI_le (by omega) (by omega) (by omega) (by omega)]
    refine ⟨fun h => ?_, fun h => ⟨vi, fun h2' => ?_, fun h2' => ⟨vi, ?_⟩⟩⟩
    · rw [b01_0] at h
      refine ih v ⟨h1, h2, fun c hc' hh hg => ?_⟩
      by_cases z : c = i
      · rw [z, h] at hh; cases hh
      · exact h3 c (by omega) hh hg
    · refine ih v ⟨h1, h2, fun c hc' hh hg => ?_⟩
      by_cases z : c = i
      · rw [z] at hg; omega
      · exact h3 c (by omega) hh hg
    · rw [b01_n] at h
      refine ih (min v (bG B i)) ⟨by omega, ?_, fun c hc' hh hg => ?_⟩
      · rcases Nat.lt_or_ge (bG B i) v with z | z
        · exact Or.inr ⟨i, h, by omega, by omega⟩
        · rw [Nat.min_eq_left z]; exact h2
      · by_cases z : c = i
        · rw [z]; exact Nat.min_le_right _ _
        · exact Nat.le_trans (Nat.min_le_left _ _) (h3 c (by omega) hh hg)
def gD (w g f : Nat → Nat) (c : Nat) : Nat := w c * absD (g c) (f c)
theorem absD_le {a b m : Nat} (ha : a ≤ m) (hb : b ≤ m) : absD a b ≤ m := by unfold absD; split <;> omega
theorem c75 {f : Nat → Nat} (ho : o = 92 ∨ o = 101) (hF : Fit r l B D σ) (hf : ∀ c, c < bN B → σ.1 (o + 5) c = nI (f c) ∧ f c ≤ 240)
    (k : ∀ σ', Fr [o, o + 6] σ σ' → (∀ c, c < bN B → σ'.1 (o + 6) c = nI (gD (bW B) (bG B) f c)) → σ'.1 o 7 = nI (sN (bN B) (gD (bW B) (bG B) f)) → Q none σ') : Cm Θ (d + 1) 75 [.ref o, .ref r] σ Q := by
  obtain ⟨⟨hr, hl⟩, ⟨hn, h16⟩, hc, hrow⟩ := id hF
  have hs7 := (near_s ho).1
  refine K75 (B75_0 hs7 (bk_s hr) ?_)
  refine loopS (α := Mem) (I := fun i s => Fr [o, o + 6] σ s ∧ (∀ c, c < i → s.1 (o + 6) c = nI (gD (bW B) (bG B) f c)) ∧ s.1 o 7 = nI (sN i (gD (bW B) (bG B) f))) (P := fun i s => G Θ (d + 1) 75 7 [some (.ref o), some (.ref r), some (.int (nI i))] [] s Q) (bN B) ?_ ?_ _ ⟨Fr.rfl.I (by simp), fun c h => absurd h (Nat.not_lt_zero _), sI_at _ _ _ _⟩
  · intro s ⟨hfr, h1, h2⟩
    have hn' : s.1 r 4 = nI (bN B) := by rw [(hfr r (by simp; omega)).1]; exact hn
    exact B75_7 hs7 (bk_s hr) ⟨fun _ => k s hfr h1 h2, fun h => absurd (by rw [hn']; exact nI_le (Nat.le_refl _) (by omega)) h⟩
  · intro i s hi ⟨hfr, h1, h2⟩ ih
    have hn' : s.1 r 4 = nI (bN B) := by rw [(hfr r (by simp; omega)).1]; exact hn
    have v := vp_in_nI (show i < 16 by omega) (by decide)
    refine B75_7 hs7 (bk_s hr) ⟨fun h => absurd h (by rw [hn']; exact nI_ge hi (by omega)), fun _ => ⟨v, v, v, v, v, ?_⟩⟩
    have b1 := hf i hi
    have b2 := hc i hi
    rw [nI_clamp (by omega), nI_1, (hfr (r + 6) (by simp; omega)).1, (hfr (r + 5) (by simp; omega)).1, (hfr (o + 5) (by simp)).1, b1.1, b2.1.1, b2.2.1, nI_abs (by omega) (by omega), pk_mul]
    have e1 : (sI s (o + 6) i (nI (bW B i * absD (bG B i) (f i)))).1 (o + 6) i = nI (gD (bW B) (bG B) f i) := sI_at _ _ _ _
    have e2 : (sI s (o + 6) i (nI (bW B i * absD (bG B i) (f i)))).1 o 7 = nI (sN i (gD (bW B) (bG B) f)) := by rw [sI_of _ _ (by omega)]; exact h2
    rw [e1, e2, nI_add]
    refine ih _ ⟨(hfr.I (by simp)).I (by simp), fun c hc' => ?_, sI_at _ _ _ _⟩
    rw [sI_of _ _ (by omega)]
    by_cases z : c = i
    · rw [z]; exact e1
    · rw [sI_of _ _ (by omega)]; exact h1 c (by omega)
theorem c73 (ho : o = 92 ∨ o = 101) (hF : Fit r l B D σ) (hD : DOk (bN B) D)
    (k : ∀ σ' f, Fr [86, 87, 88, 89, 90, 91, o, o + 5, o + 6] σ σ' → KG (bW B) (bG B) D (fun c => decide (c < bN B)) f → (∀ c, c < bN B → f c ≤ 240 ∧ σ'.1 (o + 5) c = nI (f c) ∧ σ'.1 (o + 6) c = nI (gD (bW B) (bG B) f c)) → σ'.1 o 7 = nI (sN (bN B) (gD (bW B) (bG B) f)) → Q none σ') : Cm Θ (d + 4) 73 [.ref o, .ref r, .ref l] σ Q := by
  obtain ⟨⟨hr, hl⟩, ⟨hn, h16⟩, hc, hrow⟩ := id hF
  have hls := l_shq hl
  have hs7 := (near_s ho).1
  have hw1 : ∀ c, c < bN B → 1 ≤ bW B c := fun c h => (hc c h).2.2.1
  have hw4 : ∀ c, c < bN B → bW B c ≤ 4 := fun c h => (hc c h).2.2.2
  have hg2 : ∀ c, c < bN B → bG B c ≤ 240 := fun c h => (hc c h).1.2
  let T : Nat → Bool := fun c => decide (c < bN B)
  have hTi : ∀ c, T c = true ↔ c < bN B := fun c => by show decide (c < bN B) = true ↔ _; exact decide_eq_true_iff
  let LS : List Nat := [86, 87, 88, 89, 90, 91, o, o + 5, o + 6]
  have hLS : LS = [86, 87, 88, 89, 90, 91, o, o + 5, o + 6] := rfl
  have hFs : ∀ s, Fr LS σ s → Fit r l B D s := fun s hs => Fit_fr hF hs (by rw [hLS]; rcases ho with rfl | rfl <;> decide)
  let INV : Nat → Mem → (Nat → Bool) → Int → (Nat → Nat) → Prop := fun i s R lv f =>
    Fr LS σ s ∧ (-1 ≤ lv ∧ lv ≤ 240) ∧ Lev (bW B) (bG B) D T R lv f ∧ (∀ c, c < bN B → R c = false → s.1 (o + 5) c = nI (f c) ∧ f c ≤ 240) ∧ i + cN 16 (fun c => decide (c < bN B) && decide (lv < (bG B c : Int))) ≤ 16
  have fin : ∀ i s R lv f, INV i s R lv f → (∀ c, c < 16 → R c = false) → Cv Θ (d + 3) 75 [.ref o, .ref r] s (fun σ2 => Q none σ2) := by
    intro i s R lv f ⟨h1, h2, h3, h4, h5⟩ hR
    refine c75 ho (hFs s h1) (fun c hc' => h4 c hc' (hR c (by omega))) fun σ' hf' g1 g2 => ⟨rfl, ?_⟩
    refine k σ' f (h1.tr (hf'.mono (by rw [hLS]; intro j hj; simp at hj ⊢; omega))) (lev_end h3 hR) (fun c hc' => ⟨(h4 c hc' (hR c (by omega))).2, ?_, g1 c hc'⟩) g2
    rw [(hf' (o + 5) (by simp)).1]; exact (h4 c hc' (hR c (by omega))).1
  have main : ∀ m i s R lv f, i + m = 16 → INV i s R lv f → G Θ (d + 4) 73 11 [some (.ref o), some (.ref r), some (.ref l), some (.int (sX R)), some (.int (iI lv)), some (.int (nI i)), none, none] [] s Q := by
    intro m
    induction m with
    | zero =>
      intro i s R lv f hi hI
      have hI2 := hI
      obtain ⟨h1, h2, h3, h4, h5⟩ := hI2
      refine B73_11 hs7 (bk_s hr) hls.2 ⟨fun _ => ?_, fun h => absurd (nI_le (a := 16) (by omega) (by omega)) h⟩
      refine fin i s R lv f hI fun c hc' => ?_
      have h0 := cN_eq0 16 (by omega : cN 16 (fun c => decide (c < bN B) && decide (lv < (bG B c : Int))) = 0)
      cases q : R c
      · rfl
      · obtain ⟨c1, a1, a2, a3⟩ := lev_some h3 ⟨c, hc', q⟩
        have := h0 c1 a1
        have h6 := (hTi c1).mp (h3.2.2.2 c1 a2)
        simp [h6] at this; omega
    | succ m ih =>
      intro i s R lv f hi hI
      have hI2 := hI
      obtain ⟨h1, h2, h3, h4, h5⟩ := hI2
      have hF1 := hFs s h1
      refine B73_11 hs7 (bk_s hr) hls.2 ⟨fun h => absurd h (nI_ge (b := 16) (by omega) (by decide)), fun _ => ⟨fun h => fin i s R lv f hI (sX_eq0.mp h), fun h => ?_⟩⟩
      have hne : ∃ c, c < 16 ∧ R c = true := by
        refine Classical.byContradiction fun hx => h (sX_eq0.mpr fun c hc' => ?_)
        cases q : R c
        · rfl
        · exact absurd ⟨c, hc', q⟩ hx
      have hRn : ∀ c, R c = true → c < bN B := fun c hh => (hTi c).mp (h3.2.2.2 c hh)
      obtain ⟨c1, a1, a2, a3⟩ := lev_some h3 hne
      refine c74 hF1 h2 hRn ⟨c1, a2, a3⟩ fun L b1 b2 b3 b4 => ⟨_, rfl, ?_⟩
      refine loopS (α := Mem) (I := fun j t => Fr [87] s t ∧ ∀ c, c < j → t.1 87 c = iI (aG (bW B) (bG B) L c)) (P := fun j t => G Θ (d + 4) 73 34 [some (.ref o), some (.ref r), some (.ref l), some (.int (sX R)), some (.int (nI L)), some (.int (nI i)), some (.int (nI j)), none] [] t Q) (bN B) ?_ ?_ s ⟨Fr.rfl, fun c hh => absurd hh (Nat.not_lt_zero _)⟩
      · intro t ⟨f1, f2⟩
        have h1t : Fr LS σ t := h1.tr (f1.mono (by rw [hLS]; simp))
        have hF2 := hFs t h1t
        refine B73_34 hs7 (bk_s hr) hls.2 ⟨fun _ => ?_, fun h => absurd (by rw [hF2.2.1.1]; exact nI_le (Nat.le_refl _) (by omega)) h⟩
        have hM : aM R (aG (bW B) (bG B) L) := fun c _ hh => by
          have := hw4 c (hRn c hh)
          unfold aG; split <;> omega
        refine c40 hM (fun c hh => by have := hRn c hh; omega) hl (fun c _ hh => hD.1 c (hRn c hh)) (fun x y z _ _ _ => hD.2.1 x y z) (fun x y hh => by have := (hD.2.2 x y hh).1; omega) (fun c _ hh => f2 c (hRn c hh)) (fun c h16' _ => hF2.2.2.2 c h16') fun σ2 U hf2 hMX hU => ⟨_, rfl, ?_⟩
        have hMX := MX_ow hMX
        have h12 : Fr LS σ σ2 := h1t.tr (hf2.mono (by rw [hLS]; intro j hj; simp at hj ⊢; omega))
        refine loopS (α := Mem) (I := fun j u => Fr [o + 5] σ2 u ∧ ∀ c, u.1 (o + 5) c = if c < j ∧ (R c = true ∧ U c = false) then nI L else σ2.1 (o + 5) c) (P := fun j u => G Θ (d + 4) 73 103 [some (.ref o), some (.ref r), some (.ref l), some (.int (sX R)), some (.int (nI L)), some (.int (nI i)), some (.int (sX U)), some (.int (nI j))] [] u Q) (bN B) ?_ ?_ σ2 ⟨Fr.rfl, fun c => (if_neg (fun z => absurd z.1 (Nat.not_lt_zero _))).symm⟩
        · intro u ⟨g1, g2⟩
          have h1u : Fr LS σ u := h12.tr (g1.mono (by rw [hLS]; simp))
          have hF3 := hFs u h1u
          refine B73_103 hs7 (bk_s hr) hls.2 ⟨fun _ => ?_, fun h => absurd (by rw [hF3.2.1.1]; exact nI_le (Nat.le_refl _) (by omega)) h⟩
          rw [nI_1, iI_nI L]
          refine ih (i + 1) u U (L : Int) (fun c => if R c = true ∧ U c = false then L else f c) (by omega) ⟨h1u, ⟨by omega, by omega⟩, lev_next h3 b2 b4 hMX hU, fun c hc' hUc => ?_, ?_⟩
          · show u.1 (o + 5) c = nI (if R c = true ∧ U c = false then L else f c) ∧ (if R c = true ∧ U c = false then L else f c) ≤ 240
            by_cases z : R c = true ∧ U c = false
            · rw [g2 c, if_pos ⟨hc', z⟩, if_pos z]; exact ⟨rfl, b1⟩
            · rw [g2 c, if_neg (fun y => z y.2), if_neg z, (hf2 (o + 5) (by simp; omega)).1, (f1 (o + 5) (by simp; omega)).1]
              refine h4 c hc' ?_
              cases q : R c
              · rfl
              · exact absurd ⟨q, hUc⟩ z
          · obtain ⟨c2, e1, e2⟩ := b3
            have := cN_lt (p := fun c => decide (c < bN B) && decide (((L : Nat) : Int) < (bG B c : Int))) (q := fun c => decide (c < bN B) && decide (lv < (bG B c : Int))) 16 (fun c _ hh => by
              simp only [Bool.and_eq_true, decide_eq_true_eq] at hh ⊢
              exact ⟨hh.1, by omega⟩) ⟨c2, by have := hRn c2 e1; omega, by simp [e2], by simp [hRn c2 e1, e2]; omega⟩
            omega
        · intro j u hj ⟨g1, g2⟩ ih2
          have h1u : Fr LS σ u := h12.tr (g1.mono (by rw [hLS]; simp))
          have hF3 := hFs u h1u
          have v := vp_in_nI (show j < 16 by omega) (by decide)
          refine B73_103 hs7 (bk_s hr) hls.2 ⟨fun h => absurd h (by rw [hF3.2.1.1]; exact nI_ge hj (by omega)), fun _ => ?_⟩
          rw [sX_dif, sX_shr _ (by omega), nI_1, nI_clamp (by omega)]
          refine ⟨fun h => ?_, fun h => ⟨v, ?_⟩⟩
          · rw [b01_0] at h
            refine ih2 u ⟨g1, fun c => ?_⟩
            rw [g2 c]
            by_cases z : c = j
            · subst z
              rw [if_neg (fun y => by omega), if_neg (fun y => by rw [y.2.1, y.2.2] at h; cases h)]
            · by_cases y : R c = true ∧ U c = false
              · by_cases x : c < j
                · rw [if_pos ⟨x, y⟩, if_pos ⟨by omega, y⟩]
                · rw [if_neg (fun q => x q.1), if_neg (fun q => by omega)]
              · rw [if_neg (fun q => y q.2), if_neg (fun q => y q.2)]
          · rw [b01_n] at h
            have hh : R j = true ∧ U j = false := by cases q1 : R j <;> cases q2 : U j <;> simp_all
            refine ih2 _ ⟨g1.I (by simp), fun c => ?_⟩
            by_cases z : c = j
            · subst z
              rw [sI_at, if_pos ⟨by omega, hh⟩]
            · rw [sI_of _ _ (by omega), g2 c]
              by_cases y : R c = true ∧ U c = false
              · by_cases x : c < j
                · rw [if_pos ⟨x, y⟩, if_pos ⟨by omega, y⟩]
                · rw [if_neg (fun q => x q.1), if_neg (fun q => by omega)]
              · rw [if_neg (fun q => y q.2), if_neg (fun q => y q.2)]
      · intro j t hj ⟨f1, f2⟩ ih2
        have h1t : Fr LS σ t := h1.tr (f1.mono (by rw [hLS]; simp))
        have hF2 := hFs t h1t
        have v := vp_in_nI (show j < 16 by omega) (by decide)
        refine B73_34 hs7 (bk_s hr) hls.2 ⟨fun h => absurd h (by rw [hF2.2.1.1]; exact nI_ge hj (by omega)), fun _ => ⟨v, ?_⟩⟩
        have cj := hF2.2.2.1 j hj
        rw [nI_clamp (by omega), nI_1, cj.1.1, cj.2.1, nI_leI (by omega) (by omega)]
        refine ⟨fun h => ⟨v, v, ?_⟩, fun h => ⟨v, v, ?_⟩⟩
        · have e : -nI (bW B j) = iI (aG (bW B) (bG B) L j) := by
            rw [iI_nI, iI_neg]; unfold aG; rw [if_neg (by omega)]
          rw [e]
          refine ih2 _ ⟨f1.I (by simp), fun c hc' => ?_⟩
          by_cases z : c = j
          · rw [z, sI_at]
          · rw [sI_of _ _ (by omega)]; exact f2 c (by omega)
        · have e : nI (bW B j) = iI (aG (bW B) (bG B) L j) := by
            rw [iI_nI]; unfold aG; rw [if_pos (by omega)]
          rw [e]
          refine ih2 _ ⟨f1.I (by simp), fun c hc' => ?_⟩
          by_cases z : c = j
          · rw [z, sI_at]
          · rw [sI_of _ _ (by omega)]; exact f2 c (by omega)
  refine K73 (n2 := 16) (B73_0 hs7 (bk_s hr) hls.2 ?_)
  refine ro (c17 (bk_s hr) hn h16) ?_
  have hpos : ∀ c, c < 16 → T c = true → 0 < aG (bW B) (bG B) (-1) c := fun c _ hh => by
    have := hw1 c ((hTi c).mp hh)
    unfold aG; rw [if_pos (by omega)]; omega
  refine main 16 0 σ T (-1) (fun _ => 0) rfl ⟨Fr.rfl, ⟨by decide, by decide⟩, ⟨MX_pos hpos, fun x h1 h2 => ?_, fun c h1 h2 => (by rw [h1] at h2; cases h2), fun _ h => h⟩, fun c h1 h2 => (by rw [(hTi c).mpr h1] at h2; cases h2), ?_⟩
  · have : x = -1 := by omega
    subst this
    refine MX_congr (fun _ _ => rfl) (fun c _ => ?_) (fun _ _ _ => rfl) (MX_pos hpos)
    show T c = (T c && (T c || _)); cases T c <;> rfl
  · have := cN_max (fun c => decide (c < bN B) && decide ((-1 : Int) < (bG B c : Int))) 16
    omega
end gaps
