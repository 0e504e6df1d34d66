/-! THE CHOICE OF MOST WORTH, of like ones the fewest: MX. What an exact payment says of it -/
def sS (n : Nat) (T : Nat → Bool) (a : Nat → Int) : Int := sZ n (fun c => if T c = true then a c else 0)
def MX (n : Nat) (ov : Nat → Nat → Bool) (T : Nat → Bool) (a : Nat → Int) (U : Nat → Bool) : Prop :=
  upO n ov T U ∧ ∀ V, upO n ov T V → sS n V a ≤ sS n U a ∧ (sS n V a = sS n U a → ∀ c, c < n → U c = true → V c = true)
theorem MX_one {n : Nat} {ov : Nat → Nat → Bool} {T U U' : Nat → Bool} {a : Nat → Int} (h : MX n ov T a U) (h' : MX n ov T a U') : ∀ c, c < n → U c = U' c := by
  have h1 := h.2 U' h'.1
  have h2 := h'.2 U h.1
  have e : sS n U' a = sS n U a := by have := h1.1; have := h2.1; omega
  intro c hc
  have q1 := h1.2 e c hc
  have q2 := h2.2 e.symm c hc
  cases hu : U c <;> cases hu' : U' c <;> simp_all
theorem sS_congr {n : Nat} {T U : Nat → Bool} {a b : Nat → Int} (h : ∀ c, c < n → T c = U c ∧ (T c = true → a c = b c)) : sS n T a = sS n U b :=
  sZ_congr n fun c hc => by
    have := h c hc
    rw [← this.1]
    by_cases q : T c = true
    · rw [if_pos q, if_pos q, this.2 q]
    · rw [if_neg q, if_neg q]
theorem upO_congr {n : Nat} {ov : Nat → Nat → Bool} {T T' U U' : Nat → Bool} (hT : ∀ c, c < n → T c = T' c) (hU : ∀ c, c < n → U c = U' c) (h : upO n ov T U) : upO n ov T' U' :=
  ⟨fun c hc hu => by rw [← hT c hc]; exact h.1 c hc (by rw [hU c hc]; exact hu), fun a b ha hb hTa hUb ho => by
    rw [← hU a ha]; exact h.2 a b ha hb (by rw [hT a ha]; exact hTa) (by rw [hU b hb]; exact hUb) ho⟩
theorem MX_congr {n : Nat} {ov : Nat → Nat → Bool} {T T' U U' : Nat → Bool} {a a' : Nat → Int} (hT : ∀ c, c < n → T c = T' c) (hU : ∀ c, c < n → U c = U' c) (ha : ∀ c, c < n → T c = true → a c = a' c) (h : MX n ov T a U) : MX n ov T' a' U' := by
  refine ⟨upO_congr hT hU h.1, fun V hV => ?_⟩
  have hV2 : upO n ov T V := upO_congr (fun c hc => (hT c hc).symm) (fun c _ => rfl) hV
  have h1 := h.2 V hV2
  have e1 : sS n V a' = sS n V a := sS_congr fun c hc => ⟨rfl, fun hv => (ha c hc (hV2.1 c hc hv)).symm⟩
  have e2 : sS n U' a' = sS n U a := sS_congr fun c hc => ⟨(hU c hc).symm, fun hv => (ha c hc (h.1.1 c hc (by rw [hU c hc]; exact hv))).symm⟩
  rw [e1, e2]
  exact ⟨h1.1, fun e c hc hu => h1.2 e c hc (by rw [hU c hc]; exact hu)⟩
def uB (U V : Nat → Bool) : Nat → Bool := fun c => U c || V c
def nB (U V : Nat → Bool) : Nat → Bool := fun c => U c && V c
theorem sS_mod (n : Nat) (U V : Nat → Bool) (a : Nat → Int) : sS n (uB U V) a + sS n (nB U V) a = sS n U a + sS n V a := by
  rw [sS, sS, sS, sS, ← sZ_add, ← sZ_add]
  exact sZ_congr n fun c _ => by cases hu : U c <;> cases hv : V c <;> simp [uB, nB, hu, hv]
theorem upO_u {n : Nat} {ov : Nat → Nat → Bool} {T U V : Nat → Bool} (hU : upO n ov T U) (hV : upO n ov T V) : upO n ov T (uB U V) := by
  refine ⟨fun c hc h => ?_, fun x y hx hy hT h ho => ?_⟩
  · simp only [uB, Bool.or_eq_true] at h
    rcases h with h | h
    · exact hU.1 c hc h
    · exact hV.1 c hc h
  · simp only [uB, Bool.or_eq_true] at h ⊢
    rcases h with h | h
    · exact Or.inl (hU.2 x y hx hy hT h ho)
    · exact Or.inr (hV.2 x y hx hy hT h ho)
theorem upO_n {n : Nat} {ov : Nat → Nat → Bool} {T U V : Nat → Bool} (hU : upO n ov T U) (hV : upO n ov T V) : upO n ov T (nB U V) := by
  refine ⟨fun c hc h => ?_, fun x y hx hy hT h ho => ?_⟩
  · simp only [nB, Bool.and_eq_true] at h
    exact hU.1 c hc h.1
  · simp only [nB, Bool.and_eq_true] at h ⊢
    exact ⟨hU.2 x y hx hy hT h.1 ho, hV.2 x y hx hy hT h.2 ho⟩
/-- an upper part of an upper part -/
theorem upO_tr {n : Nat} {ov : Nat → Nat → Bool} {T R U : Nat → Bool} (hR : upO n ov T R) (hU : upO n ov R U) : upO n ov T U :=
  ⟨fun c hc h => hR.1 c hc (hU.1 c hc h), fun x y hx hy hT h ho => hU.2 x y hx hy (hR.2 x y hx hy hT (hU.1 y hy h) ho) h ho⟩
theorem upO_in {n : Nat} {ov : Nat → Nat → Bool} {T R V : Nat → Bool} (hR : upO n ov T R) (hV : upO n ov T V) : upO n ov R (nB V R) :=
  ⟨fun c _ h => by simp only [nB, Bool.and_eq_true] at h; exact h.2, fun x y hx hy hRx h ho => by
    simp only [nB, Bool.and_eq_true] at h ⊢
    exact ⟨hV.2 x y hx hy (hR.1 x hx hRx) h.1 ho, hRx⟩⟩
theorem sS_le {n : Nat} {T : Nat → Bool} {a b : Nat → Int} (h : ∀ c, c < n → T c = true → a c ≤ b c) : sS n T a ≤ sS n T b :=
  sZ_le n fun c hc => by
    by_cases q : T c = true
    · rw [if_pos q, if_pos q]; exact h c hc q
    · rw [if_neg q, if_neg q]; exact Int.le_refl 0
def dB (U V : Nat → Bool) : Nat → Bool := fun c => U c && !V c
theorem sS_dif (n : Nat) (U V : Nat → Bool) (a : Nat → Int) : sS n U a = sS n (nB U V) a + sS n (dB U V) a := by
  rw [sS, sS, sS, ← sZ_add]
  exact sZ_congr n fun c _ => by cases hu : U c <;> cases hv : V c <;> simp [nB, dB, hu, hv]
theorem sS_uni (n : Nat) (U V : Nat → Bool) (a : Nat → Int) : sS n (uB U V) a = sS n V a + sS n (dB U V) a := by
  rw [sS, sS, sS, ← sZ_add]
  exact sZ_congr n fun c _ => by cases hu : U c <;> cases hv : V c <;> simp [uB, dB, hu, hv]
/-- the choice by less worth lies within that by more -/
theorem MX_nest {n : Nat} {ov : Nat → Nat → Bool} {T R U : Nat → Bool} {a a' : Nat → Int} (hR : MX n ov T a R) (hle : ∀ c, c < n → T c = true → a' c ≤ a c) (hU : MX n ov R a' U) : MX n ov T a' U := by
  refine ⟨upO_tr hR.1 hU.1, fun V hV => ?_⟩
  have h1 := hU.2 (nB V R) (upO_in hR.1 hV)
  have h2 := (hR.2 (uB V R) (upO_u hV hR.1)).1
  have h3 := sS_uni n V R a
  have h4 := sS_dif n V R a'
  have h5 : sS n (dB V R) a' ≤ sS n (dB V R) a := sS_le fun c hc h => hle c hc (hV.1 c hc (by simp only [dB, Bool.and_eq_true] at h; exact h.1))
  refine ⟨by have := h1.1; omega, fun e c hc hu => ?_⟩
  have h6 := h1.2 (by have := h1.1; omega) c hc hu
  simp only [nB, Bool.and_eq_true] at h6
  exact h6.1
theorem MX_self {n : Nat} {ov : Nat → Nat → Bool} {T R : Nat → Bool} {a : Nat → Int} (hR : MX n ov T a R) : MX n ov R a R :=
  ⟨⟨fun _ _ h => h, fun _ _ _ _ h _ _ => h⟩, fun V hV => hR.2 V (upO_tr hR.1 hV)⟩
theorem MX_mono {n : Nat} {ov : Nat → Nat → Bool} {T R U : Nat → Bool} {a a' : Nat → Int} (hR : MX n ov T a R) (hle : ∀ c, c < n → T c = true → a' c ≤ a c) (hU : MX n ov T a' U) : ∀ c, c < n → U c = true → R c = true := by
  have h1 := hU.2 (nB U R) (upO_n hU.1 hR.1)
  have h2 := (hR.2 (uB U R) (upO_u hU.1 hR.1)).1
  have h3 := sS_uni n U R a
  have h4 := sS_dif n U R a'
  have h5 : sS n (dB U R) a' ≤ sS n (dB U R) a := sS_le fun c hc h => hle c hc (hU.1.1 c hc (by simp only [dB, Bool.and_eq_true] at h; exact h.1))
  intro c hc hu
  have h6 := h1.2 (by have := h1.1; omega) c hc hu
  simp only [nB, Bool.and_eq_true] at h6
  exact h6.2
/-! PAYMENTS. lf: what is left of each worth; pd p o: what p has paid for o -/
def isP (T : Nat → Bool) (a : Nat → Int) (c : Nat) : Bool := T c && decide (0 < a c)
def isW (T : Nat → Bool) (a : Nat → Int) (c : Nat) : Bool := T c && decide (a c < 0)
def Pay (n : Nat) (ov : Nat → Nat → Bool) (T : Nat → Bool) (a : Nat → Int) (lf : Nat → Int) (pd : Nat → Nat → Int) : Prop :=
  (∀ p, p < n → isP T a p = true → 0 ≤ lf p ∧ a p = lf p + sZ n (fun o => pd p o)) ∧
  (∀ o, o < n → isW T a o = true → 0 ≤ lf o ∧ - a o = lf o + sZ n (fun p => pd p o)) ∧
  ∀ p o, p < n → o < n → 0 ≤ pd p o ∧ (pd p o ≠ 0 → isP T a p = true ∧ isW T a o = true ∧ ov o p = true)
def bI (b : Bool) : Int := if b = true then 1 else 0
theorem isP_T {T : Nat → Bool} {a : Nat → Int} {c : Nat} (h : isP T a c = true) : T c = true ∧ 0 < a c := by
  simp only [isP, Bool.and_eq_true, decide_eq_true_eq] at h; exact h
theorem isW_T {T : Nat → Bool} {a : Nat → Int} {c : Nat} (h : isW T a c = true) : T c = true ∧ a c < 0 := by
  simp only [isW, Bool.and_eq_true, decide_eq_true_eq] at h; exact h
theorem pay_row {n : Nat} {ov : Nat → Nat → Bool} {T : Nat → Bool} {a lf : Nat → Int} {pd : Nat → Nat → Int} (h : Pay n ov T a lf pd) {p : Nat} (hp : p < n) (hn : isP T a p = false) : sZ n (fun o => pd p o) = 0 := by
  rw [sZ_congr n (g := fun _ => 0) (fun o ho => ?_), sZ_zero]
  rcases Decidable.em (pd p o = 0) with q | q
  · exact q
  · have := ((h.2.2 p o hp ho).2 q).1
    rw [hn] at this; cases this
theorem pay_col {n : Nat} {ov : Nat → Nat → Bool} {T : Nat → Bool} {a lf : Nat → Int} {pd : Nat → Nat → Int} (h : Pay n ov T a lf pd) {o : Nat} (ho : o < n) (hn : isW T a o = false) : sZ n (fun p => pd p o) = 0 := by
  rw [sZ_congr n (g := fun _ => 0) (fun p hp => ?_), sZ_zero]
  rcases Decidable.em (pd p o = 0) with q | q
  · exact q
  · have := ((h.2.2 p o hp ho).2 q).2.1
    rw [hn] at this; cases this
/-- what some are worth: what is left of theirs, and what crosses -/
theorem pay_sum {n : Nat} {ov : Nat → Nat → Bool} {T : Nat → Bool} {a lf : Nat → Int} {pd : Nat → Nat → Int} (h : Pay n ov T a lf pd) {V : Nat → Bool} (hV : ∀ c, c < n → V c = true → T c = true) :
    sS n V a = sZ n (fun c => bI (V c && isP T a c) * lf c) - sZ n (fun c => bI (V c && isW T a c) * lf c) + sZ n (fun p => sZ n (fun o => (bI (V p) - bI (V o)) * pd p o)) := by
  have e1 : sZ n (fun p => sZ n (fun o => (bI (V p) - bI (V o)) * pd p o)) = sZ n (fun p => bI (V p) * sZ n (fun o => pd p o)) - sZ n (fun o => bI (V o) * sZ n (fun p => pd p o)) := by
    have e2 : sZ n (fun p => sZ n (fun o => (bI (V p) - bI (V o)) * pd p o)) = sZ n (fun p => sZ n (fun o => bI (V p) * pd p o)) - sZ n (fun p => sZ n (fun o => bI (V o) * pd p o)) := by
      rw [← sZ_sub]
      refine sZ_congr n fun p _ => ?_
      rw [← sZ_sub]
      exact sZ_congr n fun o _ => Int.sub_mul _ _ _
    rw [e2, sZ_swap (fun p o => bI (V o) * pd p o) n n]
    congr 1
    · exact sZ_congr n fun p _ => sZ_mul (bI (V p)) (fun o => pd p o) n
    · exact sZ_congr n fun o _ => sZ_mul (bI (V o)) (fun p => pd p o) n
  rw [e1, sS]
  have e3 : sZ n (fun c => if V c = true then a c else 0) = sZ n (fun c => (bI (V c && isP T a c) * lf c - bI (V c && isW T a c) * lf c) + (bI (V c) * sZ n (fun o => pd c o) - bI (V c) * sZ n (fun p => pd p c))) := by
    refine sZ_congr n fun c hc => ?_
    cases hv : V c
    · simp [bI]
    · have ht := hV c hc hv
      cases hp : isP T a c
      · have r1 := pay_row h hc hp
        cases hw : isW T a c
        · have r2 := pay_col h hc hw
          simp only [isP, isW, ht, Bool.true_and, decide_eq_false_iff_not] at hp hw
          simp [bI, r1, r2]; omega
        · have r2 := h.2.1 c hc hw
          simp [bI, r1]; omega
      · have r1 := h.1 c hc hp
        have hw : isW T a c = false := by
          cases hw : isW T a c
          · rfl
          · have := (isP_T hp).2; have := (isW_T hw).2; omega
        have r2 := pay_col h hc hw
        simp [bI, hw, r2]; omega
  rw [e3, sZ_add, sZ_sub, sZ_sub]
theorem neg_cross {x y z : Int} (h : (x - y) * z ≤ 0) : 0 ≤ (y - x) * z := by
  have e : (y - x) * z = - ((x - y) * z) := by rw [← Int.neg_mul]; congr 1; omega
  omega
theorem neg_cross2 (x y z : Int) : (y - x) * z = - ((x - y) * z) := by rw [← Int.neg_mul]; congr 1; omega
theorem bI_0 (b : Bool) : 0 ≤ bI b := by cases b <;> decide
/-- no one who owes is reached that still owes: the reached payers, with all over them, are the choice -/
theorem pay_done {n : Nat} {ov : Nat → Nat → Bool} {T R : Nat → Bool} {a lf : Nat → Int} {pd : Nat → Nat → Int} (hrf : ∀ c, c < n → ov c c = true) (htr : ∀ x y z, x < n → y < n → z < n → ov x y = true → ov y z = true → ov x z = true)
    (h : Pay n ov T a lf pd)
    (r1 : ∀ p, p < n → isP T a p = true → 0 < lf p → R p = true)
    (r2 : ∀ p o, p < n → o < n → isP T a p = true → isW T a o = true → R p = true → ov o p = true → R o = true)
    (r3 : ∀ p o, p < n → o < n → isP T a p = true → isW T a o = true → R o = true → pd p o ≠ 0 → R p = true)
    (r4 : ∀ o, o < n → isW T a o = true → R o = true → lf o = 0)
    (r5 : ∀ V : Nat → Bool, (∀ p, p < n → isP T a p = true → 0 < lf p → V p = true) → (∀ p o, p < n → o < n → isP T a p = true → isW T a o = true → V p = true → ov o p = true → V o = true) → (∀ p o, p < n → o < n → isP T a p = true → isW T a o = true → V o = true → pd p o ≠ 0 → V p = true) → ∀ c, c < n → R c = true → V c = true)
    {A : Nat → Bool} (hA : ∀ c, c < n → (A c = true ↔ T c = true ∧ ∃ p, p < n ∧ isP T a p = true ∧ R p = true ∧ ov c p = true)) : MX n ov T a A := by
  have hup : upO n ov T A := by
    refine ⟨fun c hc q => ((hA c hc).mp q).1, fun x y hx hy hT q ho => ?_⟩
    obtain ⟨-, p, hp, k1, k2, k3⟩ := (hA y hy).mp q
    exact (hA x hx).mpr ⟨hT, p, hp, k1, k2, htr x y p hx hy hp ho k3⟩
  have hAR : ∀ o, o < n → isW T a o = true → A o = true → R o = true := fun o ho k q => by
    obtain ⟨-, p, hp, k1, k2, k3⟩ := (hA o ho).mp q
    exact r2 p o hp ho k1 k k2 k3
  have hRA : ∀ p, p < n → isP T a p = true → R p = true → A p = true := fun p hp k q => (hA p hp).mpr ⟨(isP_T k).1, p, hp, k, q, hrf p hp⟩
  have cross : ∀ V, upO n ov T V → ∀ p o, p < n → o < n → (bI (V p) - bI (V o)) * pd p o ≤ 0 := by
    intro V hV p o hp ho
    have h0 := (h.2.2 p o hp ho).1
    rcases Decidable.em (pd p o = 0) with q | q
    · rw [q]; omega
    · have h1 := (h.2.2 p o hp ho).2 q
      cases hvp : V p
      · have := Int.mul_nonneg (bI_0 (V o)) h0
        have e : bI false = 0 := rfl
        rw [e, Int.zero_sub, Int.neg_mul]; omega
      · rw [hV.2 o p ho hp (isW_T h1.2.1).1 hvp h1.2.2]; simp
  have top : ∀ V, upO n ov T V → sZ n (fun c => bI (V c && isP T a c) * lf c) ≤ sZ n (fun c => bI (isP T a c) * lf c) := by
    intro V hV
    refine sZ_le n fun c hc => ?_
    cases hp : isP T a c
    · simp [bI]
    · have := (h.1 c hc hp).1
      cases V c <;> simp [bI] <;> omega
  have low : ∀ V : Nat → Bool, ∀ c, c < n → 0 ≤ bI (V c && isW T a c) * lf c := by
    intro V c hc
    cases hw : isW T a c
    · simp [bI]
    · have := (h.2.1 c hc hw).1
      cases V c <;> simp [bI] <;> omega
  have hS : sS n A a = sZ n (fun c => bI (isP T a c) * lf c) := by
    rw [pay_sum h hup.1]
    have e1 : sZ n (fun c => bI (A c && isP T a c) * lf c) = sZ n (fun c => bI (isP T a c) * lf c) := by
      refine sZ_congr n fun c hc => ?_
      cases hp : isP T a c
      · simp [bI]
      · rcases Decidable.em (lf c = 0) with q | q
        · simp [q]
        · have := (h.1 c hc hp).1
          rw [hRA c hc hp (r1 c hc hp (by omega))]; rfl
    have e2 : sZ n (fun c => bI (A c && isW T a c) * lf c) = 0 := by
      rw [sZ_congr n (g := fun _ => 0) (fun c hc => ?_), sZ_zero]
      cases hw : isW T a c
      · simp [bI]
      · cases ha : A c
        · simp [bI]
        · rw [r4 c hc hw (hAR c hc hw ha)]; simp
    have e3 : sZ n (fun p => sZ n (fun o => (bI (A p) - bI (A o)) * pd p o)) = 0 := by
      rw [sZ_congr n (g := fun _ => 0) (fun p hp => ?_), sZ_zero]
      rw [sZ_congr n (g := fun _ => 0) (fun o ho => ?_), sZ_zero]
      rcases Decidable.em (pd p o = 0) with q | q
      · rw [q]; omega
      · have h1 := (h.2.2 p o hp ho).2 q
        cases hap : A p
        · cases hao : A o
          · simp [bI]
          · have := hRA p hp h1.1 (r3 p o hp ho h1.1 h1.2.1 (hAR o ho h1.2.1 hao) q)
            rw [hap] at this; cases this
        · rw [hup.2 o p ho hp (isW_T h1.2.1).1 hap h1.2.2]; simp
    rw [e1, e2, e3]; omega
  refine ⟨hup, fun V hV => ?_⟩
  have hs := pay_sum h hV.1
  have t1 := top V hV
  have t2 := sZ_nonneg n (fun c hc => low V c hc)
  have t3 : sZ n (fun p => sZ n (fun o => (bI (V p) - bI (V o)) * pd p o)) ≤ 0 := by
    have := sZ_le (g := fun _ => 0) n (fun p hp => by
      have := sZ_le (g := fun _ => 0) n (fun o ho => cross V hV p o hp ho)
      rw [sZ_zero] at this; exact this)
    rw [sZ_zero] at this; exact this
  refine ⟨by omega, fun e c hc hac => ?_⟩
  have u1 : sZ n (fun c => bI (isP T a c) * lf c - bI (V c && isP T a c) * lf c) ≤ 0 := by rw [sZ_sub]; omega
  have u1' := sZ_eq0 n (fun c hc => by
    cases hp : isP T a c
    · simp [bI]
    · have := (h.1 c hc hp).1
      cases V c <;> simp [bI] <;> omega) u1
  have u2 : sZ n (fun p => sZ n (fun o => (bI (V o) - bI (V p)) * pd p o)) ≤ 0 := by
    have : sZ n (fun p => sZ n (fun o => (bI (V o) - bI (V p)) * pd p o)) = - sZ n (fun p => sZ n (fun o => (bI (V p) - bI (V o)) * pd p o)) := by
      rw [← sZ_neg]
      refine sZ_congr n fun p _ => ?_
      rw [← sZ_neg]
      exact sZ_congr n fun o _ => neg_cross2 _ _ _
    omega
  have u2' := sZ_eq0 n (fun p hp => sZ_nonneg n (fun o ho => neg_cross (cross V hV p o hp ho))) u2
  obtain ⟨hTc, p, hp, k1, k2, k3⟩ := (hA c hc).mp hac
  have hVp : V p = true := by
    refine r5 V ?_ ?_ ?_ p hp k2
    · intro p hp k hl
      have := u1' p hp
      cases hv : V p
      · rw [k, hv] at this; simp [bI] at this; omega
      · rfl
    · intro p o hp ho k k' hv hov
      exact hV.2 o p ho hp (isW_T k').1 hv hov
    · intro p o hp ho k k' hv hpd
      have e4 := sZ_eq0 n (fun o ho => neg_cross (cross V hV p o hp ho)) (by rw [u2' p hp]; exact Int.le_refl 0) o ho
      cases hvp : V p
      · rw [hv, hvp] at e4; simp [bI] at e4; exact absurd e4 hpd
      · rfl
  exact hV.2 c p hc hp hTc hVp k3
