/-! CONTRACTS: the class's Cut -/
theorem sX_up_t {q : Nat → Bool} {c : Nat} (hc : c < 16) (h : q c = true) : sX (fun k => decide (k < c) && q k) ||| ((1 : Int32) <<< (nI c &&& 31)) = sX (fun k => decide (k < c + 1) && q k) := by
  rw [sX_add1 _ hc]
  refine sX_congr fun k _ => ?_
  by_cases e : k = c
  · subst e; simp [h]
  · have : decide (k < c + 1) = decide (k < c) := by rw [decide_eq_decide]; omega
    rw [this]; simp [e]
theorem sX_up_f {q : Nat → Bool} {c : Nat} (h : q c = false) : sX (fun k => decide (k < c) && q k) = sX (fun k => decide (k < c + 1) && q k) := by
  refine sX_congr fun k _ => ?_
  by_cases e : k = c
  · subst e; simp [h]
  · have : decide (k < c + 1) = decide (k < c) := by rw [decide_eq_decide]; omega
    rw [this]
theorem sX_up_0 (q : Nat → Bool) : (0 : Int32) = sX (fun k => decide (k < 0) && q k) := by rw [sX_0]; exact sX_congr fun k _ => by simp
theorem sX_up_16 (q : Nat → Bool) : sX (fun k => decide (k < 16) && q k) = sX q := sX_congr fun k hk => by simp [hk]
theorem iI_abs {z : Int} (h : -1073741824 ≤ z) (h' : z ≤ 1073741824) : (if 0 ≤ iI z then iI z else 0 - iI z) = iI (z.natAbs : Nat) := by
  have hc : (0 : Int32) ≤ iI z ↔ 0 ≤ z := by rw [iI_0, iI_le (by omega) (by omega) (by omega) (by omega)]
  by_cases q : 0 ≤ z
  · rw [if_pos (hc.mpr q)]; congr 1; omega
  · rw [if_neg (fun k => q (hc.mp k)), iI_0, iI_sub]; congr 1; omega
/-- what the cut holds -/
def CuS (l : Nat) (T : Nat → Bool) (a : Nat → Int) (ov : Nat → Nat → Bool) (lf : Nat → Int) (pd : Nat → Nat → Int) (σ : Mem) : Prop :=
  ((l = 8 ∨ l = 85) ∧ σ.2.2 86 5 = l) ∧ (σ.1 86 6 = sX (isP T a) ∧ σ.1 86 7 = sX (isW T a)) ∧ (∀ c, c < 16 → isP T a c = true ∨ isW T a c = true → σ.1 88 c = iI (lf c)) ∧
  (∀ p o, p < 16 → o < 16 → σ.1 89 (16 * p + o) = iI (pd p o)) ∧ ∀ c, c < 16 → T c = true → σ.1 l c = sX (fun b => ov b c)
theorem l_shq {l : Nat} (h : l = 8 ∨ l = 85) : l ≠ 0 ∧ shq l = (20, 16) := by rcases h with rfl | rfl <;> exact ⟨by decide, rfl⟩
def aM (T : Nat → Bool) (a : Nat → Int) : Prop := ∀ c, c < 16 → T c = true → -1048576 ≤ a c ∧ a c ≤ 1048576
section cut
variable {Θ : Th} {d : Nat} {σ : Mem} {Q : Po} {l : Nat} {T : Nat → Bool} {a : Nat → Int} {ov : Nat → Nat → Bool}
theorem c41 (hM : aM T a) (hl : (l = 8 ∨ l = 85) ∧ σ.2.2 86 5 = l) (hw : ∀ c, c < 16 → T c = true → σ.1 87 c = iI (a c)) (ho : ∀ c, c < 16 → T c = true → σ.1 l c = sX (fun b => ov b c))
    (k : ∀ σ', Fr [86, 88, 89] σ σ' → CuS l T a ov (fun c => ((a c).natAbs : Nat)) (fun _ _ => 0) σ' → Q none σ') : Cm Θ (d + 1) 41 [.ref 86, .int (sX T)] σ Q := by
  refine K41 (B41_0 ?_)
  have hPT : ∀ c, (T c = false → isP T a c = false ∧ isW T a c = false) := fun c h => by simp [isP, isW, h]
  refine loopS (α := Mem) (I := fun c s => Fr [86, 88] σ s ∧ s.2.2 86 = σ.2.2 86 ∧ s.1 86 6 = sX (fun k => decide (k < c) && isP T a k) ∧ s.1 86 7 = sX (fun k => decide (k < c) && isW T a k) ∧ ∀ k, k < c → T k = true → s.1 88 k = iI ((a k).natAbs : Nat))
    (P := fun c s => G Θ (d + 1) 41 12 [some (.ref 86), some (.int (sX T)), some (.int (nI c))] [] s Q) 16 ?_ ?_ _ ⟨(Fr.rfl.I (by simp)).I (by simp), rfl, ?_, ?_, fun k hk => by omega⟩
  · intro s ⟨hf, hr, h6, h7, h8⟩
    refine B41_12 ⟨fun _ => ?_, fun h => absurd (by decide) h⟩
    refine (c292 (n := 256) rfl (by decide)).mono fun σ' ⟨hf', hz⟩ => ?_
    have hf2 : Fr [86, 88, 89] σ σ' := (hf.mono (by simp)).tr (hf'.mono (by simp))
    have e86 := hf' 86 (by decide)
    refine k σ' hf2 ⟨⟨hl.1, ?_⟩, ⟨?_, ?_⟩, fun c hc hpw => ?_, fun p o hp ho' => ?_, fun c hc hT => ?_⟩
    · rw [e86.2.2, hr]; exact hl.2
    · rw [e86.1, h6, sX_up_16]
    · rw [e86.1, h7, sX_up_16]
    · rw [(hf' 88 (by decide)).1]
      refine h8 c hc ?_
      cases q : T c
      · have := hPT c q; simp [this] at hpw
      · rfl
    · rw [hz _ (by omega)]; rfl
    · have := (hf2 l (by rcases hl.1 with rfl | rfl <;> decide)).1
      rw [this]; exact ho c hc hT
  · intro c s hc ⟨hf, hr, h6, h7, h8⟩ ih
    refine B41_12 ⟨fun h => absurd h (nI_ge hc (by decide)), fun _ => ?_⟩
    rw [sX_shr _ hc, nI_1]
    refine ⟨fun h => ?_, fun h => ?_⟩
    · rw [b01_0] at h
      have := hPT c h
      refine ih s ⟨hf, hr, h6.trans (sX_up_f this.1), h7.trans (sX_up_f this.2), fun k hk hT => ?_⟩
      rcases Nat.lt_or_ge k c with q | q
      · exact h8 k q hT
      · have : k = c := by omega
        subst this; rw [h] at hT; cases hT
    · rw [b01_n] at h
      have v := vp_in_nI hc (by decide)
      have hb := hM c hc h
      have e87 : s.1 87 c = iI (a c) := by rw [(hf 87 (by decide)).1]; exact hw c hc h
      refine ⟨v, v, v, ?_⟩
      simp only [sI_ne, ne_eq, Nat.reduceEqDiff, not_false_eq_true]
      rw [nI_clamp (by omega), e87, iI_abs (by omega) (by omega)]
      have z1 : iI (a c) ≤ 0 ↔ a c ≤ 0 := by rw [iI_0, iI_le (by omega) (by omega) (by omega) (by omega)]
      have z2 : (0 : Int32) ≤ iI (a c) ↔ 0 ≤ a c := by rw [iI_0, iI_le (by omega) (by omega) (by omega) (by omega)]
      rw [z1, z2]
      have eP : isP T a c = decide (0 < a c) := by simp [isP, h]
      have eW : isW T a c = decide (a c < 0) := by simp [isW, h]
      have st : ∀ x y : Int32, x = sX (fun k => decide (k < c + 1) && isP T a k) → y = sX (fun k => decide (k < c + 1) && isW T a k) → G Θ (d + 1) 41 12 [some (.ref 86), some (.int (sX T)), some (.int (nI (c + 1)))] [] (sI (sI (sI s 88 c (iI ((a c).natAbs : Nat))) 86 6 x) 86 7 y) Q := by
        intro x y hx hy
        refine ih _ ⟨((hf.I (by simp)).I (by simp)).I (by simp), hr, ?_, ?_, fun k hk hT => ?_⟩
        · rw [sI_of _ _ (by decide), sI_at]; exact hx
        · rw [sI_at]; exact hy
        · rw [sI_of _ _ (by omega), sI_of _ _ (by omega)]
          by_cases q : k = c
          · subst q; exact sI_at _ _ _ _
          · rw [sI_of _ _ (by omega)]; exact h8 k (by omega) hT
      refine ⟨fun q => ⟨v, fun q2 => ?_, fun q2 => ?_⟩, fun q => ⟨v, fun q2 => ?_, fun q2 => ?_⟩⟩
      · refine st _ _ ?_ ?_
        · rw [h6, Int32.or_zero]; exact sX_up_f (by rw [eP]; exact decide_eq_false (by omega))
        · rw [sI_of _ _ (by decide), sI_ne (by decide), h7, Int32.or_zero]; exact sX_up_f (by rw [eW]; exact decide_eq_false (by omega))
      · refine st _ _ ?_ ?_
        · rw [h6, Int32.or_zero]; exact sX_up_f (by rw [eP]; exact decide_eq_false (by omega))
        · rw [sI_of _ _ (by decide), sI_ne (by decide), h7]; exact sX_up_t hc (by rw [eW]; exact decide_eq_true (by omega))
      · refine st _ _ ?_ ?_
        · rw [h6]; exact sX_up_t hc (by rw [eP]; exact decide_eq_true (by omega))
        · rw [sI_of _ _ (by decide), sI_ne (by decide), h7, Int32.or_zero]; exact sX_up_f (by rw [eW]; exact decide_eq_false (by omega))
      · refine st _ _ ?_ ?_
        · rw [h6]; exact sX_up_t hc (by rw [eP]; exact decide_eq_true (by omega))
        · rw [sI_of _ _ (by decide), sI_ne (by decide), h7]; exact sX_up_t hc (by rw [eW]; exact decide_eq_true (by omega))
  · rw [sI_of _ _ (by decide), sI_at]; exact sX_up_0 _
  · rw [sI_at]; exact sX_up_0 _
theorem pay_bd {lf : Nat → Int} {pd : Nat → Nat → Int} (hM : aM T a) (h : Pay 16 ov T a lf pd) : (∀ c, c < 16 → isP T a c = true ∨ isW T a c = true → 0 ≤ lf c ∧ lf c ≤ 1048576) ∧ ∀ p o, p < 16 → o < 16 → 0 ≤ pd p o ∧ pd p o ≤ 1048576 := by
  have h0 : ∀ p, p < 16 → isP T a p = true → 0 ≤ lf p ∧ lf p ≤ 1048576 ∧ ∀ o, o < 16 → pd p o ≤ 1048576 := by
    intro p hp k
    have h1 := h.1 p hp k
    have h2 := sZ_nonneg (f := fun o => pd p o) 16 (fun o ho => (h.2.2 p o hp ho).1)
    have h3 := (hM p hp (isP_T k).1).2
    refine ⟨h1.1, by omega, fun o ho => ?_⟩
    have h4 := sZ_mem (f := fun o => pd p o) (n := 16) (k := o) (fun o ho => (h.2.2 p o hp ho).1) ho
    have h4 : pd p o ≤ sZ 16 (fun o => pd p o) := h4
    omega
  refine ⟨fun c hc k => ?_, fun p o hp ho => ?_⟩
  · rcases k with k | k
    · exact ⟨(h0 c hc k).1, (h0 c hc k).2.1⟩
    · have h1 := h.2.1 c hc k
      have h2 := sZ_nonneg (f := fun p => pd p c) 16 (fun p hp => (h.2.2 p c hp hc).1)
      have h3 := (hM c hc (isW_T k).1).1
      exact ⟨h1.1, by omega⟩
  · have h1 := h.2.2 p o hp ho
    refine ⟨h1.1, ?_⟩
    rcases Decidable.em (pd p o = 0) with q | q
    · omega
    · exact (h0 p hp (h1.2 q).1).2.2 o ho
theorem ix16 {c m : Nat} : nI c * 16 + nI m = nI (16 * c + m) := by
  rw [show (16 : Int32) = nI 16 from rfl, pk_mul, nI_add, Nat.mul_comm c 16]
/-- a payment, in the cells -/
theorem cu_add {lf : Nat → Int} {pd : Nat → Nat → Int} {s : Mem} {p0 o0 : Nat} {m : Int} (h : CuS l T a ov lf pd s) (hp : p0 < 16) (ho : o0 < 16) (hne : p0 ≠ o0) (hP : isP T a p0 = true ∨ isW T a p0 = true) (hW : isP T a o0 = true ∨ isW T a o0 = true) {v1 v2 v3 : Int32} (e1 : v1 = iI (pd p0 o0 + m)) (e2 : v2 = iI (lf p0 - m)) (e3 : v3 = iI (lf o0 - m)) :
    CuS l T a ov (fun c => lf c - (if c = p0 ∨ c = o0 then m else 0)) (fun p o => pd p o + (if p = p0 ∧ o = o0 then m else 0)) (sI (sI (sI s 89 (16 * p0 + o0) v1) 88 p0 v2) 88 o0 v3) := by
  obtain ⟨⟨hl, h1⟩, ⟨h2, h3⟩, h4, h5, h6⟩ := h
  refine ⟨⟨hl, h1⟩, ⟨?_, ?_⟩, fun c hc k => ?_, fun p o hpn hon => ?_, fun c hc hT => ?_⟩
  · rw [sI_ne (by decide), sI_ne (by decide), sI_ne (by decide)]; exact h2
  · rw [sI_ne (by decide), sI_ne (by decide), sI_ne (by decide)]; exact h3
  · show _ = iI (lf c - (if c = p0 ∨ c = o0 then m else 0))
    by_cases q : c = o0
    · subst q; rw [sI_at, e3, if_pos (Or.inr rfl)]
    · rw [sI_of _ _ (by omega)]
      by_cases q2 : c = p0
      · subst q2; rw [sI_at, e2, if_pos (Or.inl rfl)]
      · rw [sI_of _ _ (by omega), sI_ne (by decide), h4 c hc k, if_neg (by omega), Int.sub_zero]
  · show _ = iI (pd p o + (if p = p0 ∧ o = o0 then m else 0))
    rw [sI_ne (by decide), sI_ne (by decide)]
    by_cases q : p = p0 ∧ o = o0
    · obtain ⟨rfl, rfl⟩ := q
      rw [sI_at, e1, if_pos ⟨rfl, rfl⟩]
    · rw [sI_of _ _ (by omega), h5 p o hpn hon, if_neg q, Int.add_zero]
  · have n1 : l ≠ 88 ∧ l ≠ 89 := by omega
    rw [sI_ne n1.1, sI_ne n1.1, sI_ne n1.2]; exact h6 c hc hT
end cut
