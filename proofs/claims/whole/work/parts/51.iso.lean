/-! THE MONTHS KEPT BY SQUARES. ov a b: a is over b; T: some of 0 .. n-1. VI says that f is nearest, by the inequality that only the nearest one meets -/
def sT (n : Nat) (T : Nat → Bool) (f : Nat → Rat) : Rat := sQ n (fun c => if T c = true then f c else 0)
def isoO (n : Nat) (ov : Nat → Nat → Bool) (T : Nat → Bool) (h : Nat → Rat) : Prop :=
  ∀ a b, a < n → b < n → T a = true → T b = true → ov a b = true → h b ≤ h a
/-- V holds with each of T all of T that are over it -/
def upO (n : Nat) (ov : Nat → Nat → Bool) (T V : Nat → Bool) : Prop :=
  (∀ c, c < n → V c = true → T c = true) ∧ ∀ a b, a < n → b < n → T a = true → V b = true → ov a b = true → V a = true
def VI (n : Nat) (ov : Nat → Nat → Bool) (T : Nat → Bool) (w g f : Nat → Rat) : Prop :=
  isoO n ov T f ∧ ∀ h, isoO n ov T h → sT n T (fun c => w c * (g c - f c) * (h c - f c)) ≤ 0
theorem sT_congr {n : Nat} {T : Nat → Bool} {f g : Nat → Rat} (h : ∀ c, c < n → T c = true → f c = g c) : sT n T f = sT n T g :=
  sQ_congr n fun c hc => by
    by_cases q : T c = true
    · rw [if_pos q, if_pos q, h c hc q]
    · rw [if_neg q, if_neg q]
theorem sT_le {n : Nat} {T : Nat → Bool} {f g : Nat → Rat} (h : ∀ c, c < n → T c = true → f c ≤ g c) : sT n T f ≤ sT n T g :=
  sQ_le n fun c hc => by
    by_cases q : T c = true
    · rw [if_pos q, if_pos q]; exact h c hc q
    · rw [if_neg q, if_neg q]; exact Rat.le_refl
theorem sT_add (n : Nat) (T : Nat → Bool) (f g : Nat → Rat) : sT n T (fun c => f c + g c) = sT n T f + sT n T g := by
  rw [sT, sT, sT, ← sQ_add]
  exact sQ_congr n fun c _ => by by_cases q : T c = true <;> simp [q]; grind
theorem sT_sub (n : Nat) (T : Nat → Bool) (f g : Nat → Rat) : sT n T (fun c => f c - g c) = sT n T f - sT n T g := by
  rw [sT, sT, sT, ← sQ_sub]
  exact sQ_congr n fun c _ => by by_cases q : T c = true <;> simp [q]; grind
theorem sT_mul (n : Nat) (T : Nat → Bool) (a : Rat) (f : Nat → Rat) : sT n T (fun c => a * f c) = a * sT n T f := by
  rw [sT, sT, ← sQ_mul]
  exact sQ_congr n fun c _ => by by_cases q : T c = true <;> simp [q]
theorem sT_neg (n : Nat) (T : Nat → Bool) (f : Nat → Rat) : sT n T (fun c => - f c) = - sT n T f := by
  rw [sT, sT, ← sQ_neg]
  exact sQ_congr n fun c _ => by by_cases q : T c = true <;> simp [q]
theorem sT_nonneg {n : Nat} {T : Nat → Bool} {f : Nat → Rat} (h : ∀ c, c < n → T c = true → 0 ≤ f c) : 0 ≤ sT n T f :=
  sQ_nonneg n fun c hc => by
    by_cases q : T c = true
    · rw [if_pos q]; exact h c hc q
    · rw [if_neg q]; exact Rat.le_refl
theorem sT_eq0 {n : Nat} {T : Nat → Bool} {f : Nat → Rat} (h : ∀ c, c < n → T c = true → 0 ≤ f c) (hs : sT n T f ≤ 0) : ∀ c, c < n → T c = true → f c = 0 := by
  intro c hc ht
  have := sQ_eq0 (f := fun c => if T c = true then f c else 0) n (fun k hk => by
    by_cases q : T k = true
    · simp only [q, if_true]; exact h k hk q
    · simp only [q]; exact Rat.le_refl) hs c hc
  simpa [ht] using this
/-- T in two parts -/
theorem sT_parts {n : Nat} {T U L : Nat → Bool} (f : Nat → Rat) (h : ∀ c, c < n → (T c = true ↔ U c = true ∨ L c = true) ∧ ¬ (U c = true ∧ L c = true)) : sT n T f = sT n U f + sT n L f := by
  rw [sT, sT, sT, ← sQ_add]
  refine sQ_congr n fun c hc => ?_
  have hh := h c hc
  cases ht : T c <;> cases hu : U c <;> cases hl : L c <;> simp_all <;> grind
/-- layers: what is not above 0 over each upper part is not above 0 times any function that keeps the order -/
theorem layers {n : Nat} {ov : Nat → Nat → Bool} {T : Nat → Bool} {a : Nat → Rat} (ha : ∀ V, upO n ov T V → sT n V a ≤ 0) :
    ∀ (k : Nat) (φ : Nat → Rat), cN n (fun c => T c && decide (0 < φ c)) ≤ k → isoO n ov T φ → (∀ c, c < n → T c = true → 0 ≤ φ c) → sT n T (fun c => a c * φ c) ≤ 0 := by
  intro k
  induction k with
  | zero =>
    intro φ hk hi h0
    have hz := cN_eq0 n (Nat.le_zero.mp hk)
    rw [sT_congr (g := fun _ => 0) (fun c hc ht => by
      have h1 := hz c hc
      simp only [ht, Bool.true_and, decide_eq_false_iff_not] at h1
      have h2 := h0 c hc ht
      have h3 : φ c = 0 := by grind
      rw [h3]; grind)]
    rw [sT, sQ_congr n (g := fun _ => 0) (fun c _ => by by_cases q : T c = true <;> simp [q]), sQ_zero]; exact Rat.le_refl
  | succ k ih =>
    intro φ hk hi h0
    by_cases hn : ∃ c, c < n ∧ (fun c => T c && decide (0 < φ c)) c = true
    · obtain ⟨m, hm, hp, hl⟩ := minQ (fun c => T c && decide (0 < φ c)) φ n hn
      have hmT : T m = true := by simp at hp; exact hp.1
      have hm0 : 0 < φ m := by simp at hp; exact hp.2
      have hD : upO n ov T (fun c => T c && decide (0 < φ c)) := by
        refine ⟨fun c hc h => by simp at h; exact h.1, fun x y hx hy hT hV ho => ?_⟩
        simp at hV
        have := hi x y hx hy hT hV.1 ho
        simp only [hT, Bool.true_and, decide_eq_true_eq]
        have := hV.2
        grind
      have h1 := ha _ hD
      let ψ : Nat → Rat := fun c => if (T c && decide (0 < φ c)) = true then φ c - φ m else φ c
      have hψ : ∀ c, ψ c = if (T c && decide (0 < φ c)) = true then φ c - φ m else φ c := fun _ => rfl
      have hψ0 : ∀ c, c < n → T c = true → 0 ≤ ψ c := by
        intro c hc ht
        rw [hψ]
        by_cases q : (T c && decide (0 < φ c)) = true
        · rw [if_pos q]
          have := hl c hc q
          grind
        · rw [if_neg q]; exact h0 c hc ht
      have hψi : isoO n ov T ψ := by
        intro x y hx hy hTx hTy ho
        have h2 := hi x y hx hy hTx hTy ho
        rw [hψ, hψ]
        by_cases q : (T y && decide (0 < φ y)) = true
        · have qx : (T x && decide (0 < φ x)) = true := hD.2 x y hx hy hTx q ho
          rw [if_pos q, if_pos qx]; grind
        · rw [if_neg q]
          simp only [hTy, Bool.true_and, decide_eq_true_eq] at q
          have h3 := hψ0 x hx hTx
          rw [hψ] at h3
          have h4 := h0 y hy hTy
          grind
      have hc : cN n (fun c => T c && decide (0 < ψ c)) ≤ k := by
        have := cN_lt (p := fun c => T c && decide (0 < ψ c)) (q := fun c => T c && decide (0 < φ c)) n (fun c hc h => by
          simp only [Bool.and_eq_true, decide_eq_true_eq] at h ⊢
          refine ⟨h.1, ?_⟩
          have h5 := h.2
          rw [hψ] at h5
          by_cases q : (T c && decide (0 < φ c)) = true
          · simp only [Bool.and_eq_true, decide_eq_true_eq] at q; exact q.2
          · rw [if_neg q] at h5; exact h5) ⟨m, hm, by
            have : ψ m = 0 := by rw [hψ, if_pos hp]; grind
            simp [this], hp⟩
        omega
      have h6 := ih ψ hc hψi hψ0
      have h7 : sT n T (fun c => a c * φ c) = sT n T (fun c => a c * ψ c) + φ m * sT n (fun c => T c && decide (0 < φ c)) a := by
        rw [← sT_mul, sT, sT, sT, ← sQ_add]
        refine sQ_congr n fun c hc => ?_
        rw [hψ]
        by_cases ht : T c = true
        · by_cases q : 0 < φ c
          · simp [ht, q]; grind
          · simp [ht, q]; grind
        · simp [ht]; grind
      rw [h7]
      have h8 : φ m * sT n (fun c => T c && decide (0 < φ c)) a ≤ 0 := by
        have := Rat.mul_le_mul_of_nonneg_left h1 (Rat.le_of_lt hm0)
        grind
      grind
    · refine ih φ ?_ hi h0
      rw [cN_0 n (fun c hc => by
        cases q : (T c && decide (0 < φ c))
        · rfl
        · exact absurd ⟨c, hc, q⟩ hn)]
      exact Nat.zero_le k
theorem layer {n : Nat} {ov : Nat → Nat → Bool} {T : Nat → Bool} {a φ : Nat → Rat} (ha : ∀ V, upO n ov T V → sT n V a ≤ 0) (hi : isoO n ov T φ) (h0 : ∀ c, c < n → T c = true → 0 ≤ φ c) : sT n T (fun c => a c * φ c) ≤ 0 :=
  layers ha (cN n (fun c => T c && decide (0 < φ c))) φ (Nat.le_refl _) hi h0
/-- a set that isn't parted: its mean -/
theorem VI_leaf {n : Nat} {ov : Nat → Nat → Bool} {T : Nat → Bool} {w g : Nat → Rat} {m : Rat} (h0 : sT n T (fun c => w c * (g c - m)) = 0) (ha : ∀ V, upO n ov T V → sT n V (fun c => w c * (g c - m)) ≤ 0) : VI n ov T w g (fun _ => m) := by
  refine ⟨fun a b _ _ _ _ _ => Rat.le_refl, fun h hi => ?_⟩
  by_cases hn : ∃ c, c < n ∧ T c = true
  · obtain ⟨k, hk, hT, hl⟩ := minQ T h n hn
    have h1 := layer (φ := fun c => h c - h k) ha (fun a b ha hb hTa hTb ho => by have := hi a b ha hb hTa hTb ho; grind) (fun c hc ht => by have := hl c hc ht; grind)
    have h2 : sT n T (fun c => w c * (g c - m) * (h c - m)) = sT n T (fun c => w c * (g c - m) * (h c - h k)) + (h k - m) * sT n T (fun c => w c * (g c - m)) := by
      rw [← sT_mul, ← sT_add]; exact sT_congr fun c _ _ => by grind
    rw [h2, h0]; grind
  · rw [sT, sQ_congr n (g := fun _ => 0) (fun c hc => by
      by_cases q : T c = true
      · exact absurd ⟨c, hc, q⟩ hn
      · simp [q]), sQ_zero]; exact Rat.le_refl
/-- what no upper part is above, keeps the nearest at most so high -/
theorem VI_hi {n : Nat} {ov : Nat → Nat → Bool} {T : Nat → Bool} {w g f : Nat → Rat} {m : Rat} (hw : ∀ c, c < n → T c = true → 0 < w c) (hv : VI n ov T w g f) (ha : ∀ V, upO n ov T V → sT n V (fun c => w c * (g c - m)) ≤ 0) : ∀ c, c < n → T c = true → f c ≤ m := by
  let ψ : Nat → Rat := fun c => if m < f c then f c - m else 0
  have hψ : ∀ c, ψ c = if m < f c then f c - m else 0 := fun _ => rfl
  have hψ0 : ∀ c, 0 ≤ ψ c := by intro c; rw [hψ]; split <;> grind
  have hi : isoO n ov T ψ := by
    intro a b ha hb hTa hTb ho
    have := hv.1 a b ha hb hTa hTb ho
    rw [hψ, hψ]; split <;> split <;> grind
  have h1 := layer (φ := ψ) ha hi (fun c _ _ => hψ0 c)
  have h2 := hv.2 (fun c => f c - ψ c) (by
    intro a b ha hb hTa hTb ho
    have := hv.1 a b ha hb hTa hTb ho
    show f b - ψ b ≤ f a - ψ a
    rw [hψ, hψ]; split <;> split <;> grind)
  have h3 : sT n T (fun c => w c * (g c - m) * ψ c) = - sT n T (fun c => w c * (g c - f c) * (f c - ψ c - f c)) + sT n T (fun c => w c * (ψ c * ψ c)) := by
    rw [← sT_neg, ← sT_add]
    refine sT_congr fun c _ _ => ?_
    have : ψ c = 0 ∨ ψ c = f c - m := by rw [hψ]; split <;> simp
    rcases this with q | q <;> rw [q] <;> grind
  have h4 : sT n T (fun c => w c * (ψ c * ψ c)) ≤ 0 := by grind
  have h5 := sT_eq0 (fun c hc ht => Rat.mul_nonneg (Rat.le_of_lt (hw c hc ht)) (Rat.mul_nonneg (hψ0 c) (hψ0 c))) h4
  intro c hc ht
  have h6 := h5 c hc ht
  rcases Rat.mul_eq_zero.mp h6 with q | q
  · have := hw c hc ht; rw [q] at this; exact absurd this (Rat.lt_irrefl)
  · have q2 : ψ c = 0 := by rcases Rat.mul_eq_zero.mp q with e | e <;> exact e
    rw [hψ] at q2
    by_cases e : m < f c
    · rw [if_pos e] at q2; grind
    · grind
/-- the other way round -/
theorem VI_dual {n : Nat} {ov : Nat → Nat → Bool} {T : Nat → Bool} {w g f : Nat → Rat} (hv : VI n ov T w g f) : VI n (fun a b => ov b a) T w (fun c => - g c) (fun c => - f c) := by
  refine ⟨fun a b ha hb hTa hTb ho => ?_, fun h hi => ?_⟩
  · have := hv.1 b a hb ha hTb hTa ho
    show - f b ≤ - f a
    grind
  · have h1 := hv.2 (fun c => - h c) (fun a b ha hb hTa hTb ho => by
      have := hi b a hb ha hTb hTa ho
      show - h b ≤ - h a
      grind)
    rw [sT_congr (g := fun c => w c * (g c - f c) * (- h c - f c)) (fun c _ _ => by grind)]
    exact h1
theorem VI_lo {n : Nat} {ov : Nat → Nat → Bool} {T : Nat → Bool} {w g f : Nat → Rat} {m : Rat} (hw : ∀ c, c < n → T c = true → 0 < w c) (hv : VI n ov T w g f) (ha : ∀ V, upO n (fun a b => ov b a) T V → 0 ≤ sT n V (fun c => w c * (g c - m))) : ∀ c, c < n → T c = true → m ≤ f c := by
  intro c hc ht
  have h := VI_hi (m := -m) hw (VI_dual hv) (fun V hV => by
    have h1 := ha V hV
    rw [sT_congr (g := fun c => - (w c * (g c - m))) (fun c _ _ => by grind), sT_neg]
    grind) c hc ht
  grind
/-- two parts, one above the other, put together -/
theorem VI_glue {n : Nat} {ov : Nat → Nat → Bool} {T U L : Nat → Bool} {w g f : Nat → Rat} {m : Rat} (hp : ∀ c, c < n → (T c = true ↔ U c = true ∨ L c = true) ∧ ¬ (U c = true ∧ L c = true))
    (hno : ∀ a b, a < n → b < n → L a = true → U b = true → ov a b = false) (hU : VI n ov U w g f) (hL : VI n ov L w g f) (hlo : ∀ c, c < n → U c = true → m ≤ f c) (hhi : ∀ c, c < n → L c = true → f c ≤ m) : VI n ov T w g f := by
  refine ⟨fun a b ha hb hTa hTb ho => ?_, fun h hi => ?_⟩
  · rcases (hp a ha).1.mp hTa with qa | qa <;> rcases (hp b hb).1.mp hTb with qb | qb
    · exact hU.1 a b ha hb qa qb ho
    · have := hlo a ha qa; have := hhi b hb qb; grind
    · rw [hno a b ha hb qa qb] at ho; cases ho
    · exact hL.1 a b ha hb qa qb ho
  · rw [sT_parts _ hp]
    have h1 := hU.2 h (fun a b ha hb hTa hTb ho => hi a b ha hb ((hp a ha).1.mpr (Or.inl hTa)) ((hp b hb).1.mpr (Or.inl hTb)) ho)
    have h2 := hL.2 h (fun a b ha hb hTa hTb ho => hi a b ha hb ((hp a ha).1.mpr (Or.inr hTa)) ((hp b hb).1.mpr (Or.inr hTb)) ho)
    grind
/-- there is just one -/
theorem VI_one {n : Nat} {ov : Nat → Nat → Bool} {T : Nat → Bool} {w g f f' : Nat → Rat} (hw : ∀ c, c < n → T c = true → 0 < w c) (h : VI n ov T w g f) (h' : VI n ov T w g f') : ∀ c, c < n → T c = true → f c = f' c := by
  have h1 := h.2 f' h'.1
  have h2 := h'.2 f h.1
  have h3 : sT n T (fun c => w c * ((f c - f' c) * (f c - f' c))) = sT n T (fun c => w c * (g c - f c) * (f' c - f c)) + sT n T (fun c => w c * (g c - f' c) * (f c - f' c)) := by
    rw [← sT_add]; exact sT_congr fun c _ _ => by grind
  have h4 : ∀ x : Rat, 0 ≤ x * x := fun x => by
    rcases Rat.le_total (a := 0) (b := x) with q | q
    · exact Rat.mul_nonneg q q
    · have := Rat.mul_nonneg (a := -x) (b := -x) (by grind) (by grind)
      grind
  have h5 := sT_eq0 (f := fun c => w c * ((f c - f' c) * (f c - f' c))) (fun c hc ht => Rat.mul_nonneg (Rat.le_of_lt (hw c hc ht)) (h4 _)) (by rw [h3]; grind)
  intro c hc ht
  rcases Rat.mul_eq_zero.mp (h5 c hc ht) with q | q
  · have := hw c hc ht; rw [q] at this; exact absurd this (Rat.lt_irrefl)
  · rcases Rat.mul_eq_zero.mp q with e | e <;> grind
theorem VI_congr {n : Nat} {ov : Nat → Nat → Bool} {T : Nat → Bool} {w g f f' : Nat → Rat} (he : ∀ c, c < n → T c = true → f c = f' c) (h : VI n ov T w g f) : VI n ov T w g f' := by
  refine ⟨fun a b ha hb hTa hTb ho => by rw [← he a ha hTa, ← he b hb hTb]; exact h.1 a b ha hb hTa hTb ho, fun k hi => ?_⟩
  rw [← sT_congr (f := fun c => w c * (g c - f c) * (k c - f c)) (fun c hc ht => by rw [he c hc ht])]
  exact h.2 k hi
