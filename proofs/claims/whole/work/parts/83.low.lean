/-! THE LOWEST PART: its mean is the nearest there, and the rest is no lower -/
def loO (ov : Nat → Nat → Bool) (T V : Nat → Bool) : Prop := (∀ c, c < 16 → V c = true → T c = true) ∧ ∀ a b, a < 16 → b < 16 → T b = true → V a = true → ov a b = true → V b = true
section low
variable {w g : Nat → Nat} {T L U V A B : Nat → Bool} {ov : Nat → Nat → Bool} {x : Rat}
theorem sT_w : sT 16 V (fun c => qF w c * (qF g c - x)) = ((gT w g V : Nat) : Rat) - x * ((wT w V : Nat) : Rat) := by
  have e1 : sT 16 V (fun c => qF w c * (qF g c - x)) = sT 16 V (fun c => ((w c * g c : Nat) : Rat)) - x * sT 16 V (fun c => ((w c : Nat) : Rat)) := by
    rw [← sT_mul, ← sT_sub]
    refine sT_congr fun c _ _ => ?_
    show ((w c : Nat) : Rat) * (((g c : Nat) : Rat) - x) = ((w c * g c : Nat) : Rat) - x * ((w c : Nat) : Rat)
    grind
  rw [e1, sT_castN, sT_castN]; rfl
/-- the mean against the mean, in whole numbers -/
theorem sT_ge (hp : 0 < wT w L) : 0 ≤ sT 16 V (fun c => qF w c * (qF g c - mT w g L)) ↔ gT w g L * wT w V ≤ gT w g V * wT w L := by
  have hW : 0 < ((wT w L : Nat) : Rat) := Rat.natCast_pos.mpr hp
  have hm := mT_eq (w := w) (g := g) hp
  rw [sT_w]
  have e : (((gT w g V : Nat) : Rat) - mT w g L * ((wT w V : Nat) : Rat)) * ((wT w L : Nat) : Rat) = ((gT w g V * wT w L : Nat) : Rat) - ((gT w g L * wT w V : Nat) : Rat) := by
    rw [Rat.natCast_mul, Rat.natCast_mul, ← hm]; grind
  have h1 : ((gT w g L * wT w V : Nat) : Rat) ≤ ((gT w g V * wT w L : Nat) : Rat) ↔ gT w g L * wT w V ≤ gT w g V * wT w L := Rat.natCast_le_natCast
  rw [← h1]
  constructor
  · intro h
    have := Rat.mul_nonneg h (Rat.le_of_lt hW)
    rw [e] at this; grind
  · intro h
    have h2 : 0 * ((wT w L : Nat) : Rat) ≤ (((gT w g V : Nat) : Rat) - mT w g L * ((wT w V : Nat) : Rat)) * ((wT w L : Nat) : Rat) := by rw [e]; grind
    exact Rat.le_of_mul_le_mul_right h2 hW
theorem sq_low {f : Nat → Rat} (hw : ∀ c, c < 16 → T c = true → 0 < w c) (hp : 0 < wT w L) (hL : loO ov T L) (hmin : ∀ V, loO ov T V → gT w g L * wT w V ≤ gT w g V * wT w L)
    (hU : VI 16 ov (dB T L) (qF w) (qF g) f) (hf : ∀ c, c < 16 → L c = true → f c = mT w g L) : VI 16 ov T (qF w) (qF g) f := by
  have hwq : ∀ c, c < 16 → T c = true → 0 < qF w c := fun c hc ht => Rat.natCast_pos.mpr (hw c hc ht)
  have hT : ∀ c, c < 16 → (T c = true ↔ dB T L c = true ∨ L c = true) ∧ ¬ (dB T L c = true ∧ L c = true) := fun c hc => by
    have := hL.1 c hc
    cases ht : T c <;> cases hu : L c <;> simp_all [dB]
  have hUT : ∀ c, c < 16 → dB T L c = true → T c = true := fun c _ hh => by simp only [dB, Bool.and_eq_true] at hh; exact hh.1
  have h0 := sT_0 (w := w) (g := g) hp
  refine VI_glue (m := mT w g L) hT (fun a b ha hb hLa hUb => ?_) hU (VI_congr (fun c hc h => (hf c hc h).symm) (VI_leaf h0 fun V hV => ?_)) (VI_lo (fun c hc hh => hwq c hc (hUT c hc hh)) hU fun V hV => ?_) fun c hc h => by rw [hf c hc h]; exact Rat.le_refl
  · cases q : ov a b
    · rfl
    · simp only [dB, Bool.and_eq_true, Bool.not_eq_true'] at hUb
      have := hL.2 a b ha hb hUb.1 hLa q
      rw [this] at hUb; exact absurd hUb.2 (by decide)
  · -- the upper part of the lowest
    have h1 : loO ov T (dB L V) := by
      refine ⟨fun c hc hh => ?_, fun a b ha hb hTb hh ho => ?_⟩
      · simp only [dB, Bool.and_eq_true] at hh; exact hL.1 c hc hh.1
      · simp only [dB, Bool.and_eq_true, Bool.not_eq_true'] at hh ⊢
        have hLb := hL.2 a b ha hb hTb hh.1 ho
        refine ⟨hLb, ?_⟩
        cases z : V b
        · rfl
        · have := hV.2 a b ha hb hh.1 z ho
          rw [this] at hh; exact absurd hh.2 (by decide)
    have h2 := (sT_ge (V := dB L V) hp).mpr (hmin _ h1)
    have h3 := sT_parts (n := 16) (T := L) (U := V) (L := dB L V) (fun c => qF w c * (qF g c - mT w g L)) (fun c hc => part_d (hV.1 c hc))
    grind
  · have h1 : loO ov T (uB L V) := by
      refine ⟨fun c hc hh => ?_, fun a b ha hb hTb hh ho => ?_⟩
      · simp only [uB, Bool.or_eq_true] at hh
        rcases hh with hh | hh
        · exact hL.1 c hc hh
        · exact hUT c hc (hV.1 c hc hh)
      · simp only [uB, Bool.or_eq_true] at hh ⊢
        rcases hh with hh | hh
        · exact Or.inl (hL.2 a b ha hb hTb hh ho)
        · cases z : L b
          · refine Or.inr (hV.2 b a hb ha ?_ hh ho)
            simp [dB, hTb, z]
          · exact Or.inl rfl
    have h2 := (sT_ge (V := uB L V) hp).mpr (hmin _ h1)
    have h3 := sT_parts (n := 16) (T := uB L V) (U := L) (L := V) (fun c => qF w c * (qF g c - mT w g L)) (fun c hc => part_u (hV.1 c hc))
    grind
theorem loO_u (hA : loO ov T A) (hB : loO ov T B) : loO ov T (uB A B) := by
  refine ⟨fun c hc hh => ?_, fun a b ha hb hTb hh ho => ?_⟩
  · simp only [uB, Bool.or_eq_true] at hh
    rcases hh with hh | hh
    · exact hA.1 c hc hh
    · exact hB.1 c hc hh
  · simp only [uB, Bool.or_eq_true] at hh ⊢
    rcases hh with hh | hh
    · exact Or.inl (hA.2 a b ha hb hTb hh ho)
    · exact Or.inr (hB.2 a b ha hb hTb hh ho)
theorem loO_n (hA : loO ov T A) (hB : loO ov T B) : loO ov T (nB A B) := by
  refine ⟨fun c hc hh => ?_, fun a b ha hb hTb hh ho => ?_⟩
  · simp only [nB, Bool.and_eq_true] at hh; exact hA.1 c hc hh.1
  · simp only [nB, Bool.and_eq_true] at hh ⊢
    exact ⟨hA.2 a b ha hb hTb hh.1 ho, hB.2 a b ha hb hTb hh.2 ho⟩
theorem sN_mod (f : Nat → Nat) (A B : Nat → Bool) : ∀ n, sN n (fun c => if uB A B c = true then f c else 0) + sN n (fun c => if nB A B c = true then f c else 0) = sN n (fun c => if A c = true then f c else 0) + sN n (fun c => if B c = true then f c else 0)
  | 0 => rfl
  | n + 1 => by
    have ih := sN_mod f A B n
    show sN n _ + (if uB A B n = true then f n else 0) + (sN n _ + (if nB A B n = true then f n else 0)) = sN n _ + (if A n = true then f n else 0) + (sN n _ + (if B n = true then f n else 0))
    have : (if uB A B n = true then f n else 0) + (if nB A B n = true then f n else 0) = (if A n = true then f n else 0) + (if B n = true then f n else 0) := by
      cases ha : A n <;> cases hb : B n <;> simp [uB, nB, ha, hb]
    omega
theorem wT_mod (A B : Nat → Bool) : wT w (uB A B) + wT w (nB A B) = wT w A + wT w B := sN_mod w A B 16
theorem gT_mod (A B : Nat → Bool) : gT w g (uB A B) + gT w g (nB A B) = gT w g A + gT w g B := sN_mod (fun c => w c * g c) A B 16
/-- two of one mean: what they make together is no higher, if what they share is no lower -/
theorem low_u (he : gT w g B * wT w A = gT w g A * wT w B) (hn : gT w g A * wT w (nB A B) ≤ gT w g (nB A B) * wT w A) : gT w g (uB A B) * wT w A ≤ gT w g A * wT w (uB A B) := by
  have h1 := wT_mod (w := w) A B
  have h2 := gT_mod (w := w) (g := g) A B
  have e1 : gT w g (uB A B) * wT w A + gT w g (nB A B) * wT w A = gT w g A * wT w A + gT w g B * wT w A := by rw [← Nat.add_mul, h2, Nat.add_mul]
  have e2 : gT w g A * wT w (uB A B) + gT w g A * wT w (nB A B) = gT w g A * wT w A + gT w g A * wT w B := by rw [← Nat.mul_add, h1, Nat.mul_add]
  omega
/-- no higher than one that is no higher -/
theorem low_tr {x y u v p q : Nat} (hv : 0 < v) (h1 : x * v ≤ u * y) (h2 : u * q ≤ p * v) : x * q ≤ p * y := by
  have a1 : x * v * q ≤ u * y * q := Nat.mul_le_mul_right _ h1
  have a2 : u * q * y ≤ p * v * y := Nat.mul_le_mul_right _ h2
  have e1 : u * y * q = u * q * y := Nat.mul_right_comm _ _ _
  have e2 : x * v * q = x * q * v := Nat.mul_right_comm _ _ _
  have e3 : p * v * y = p * y * v := Nat.mul_right_comm _ _ _
  exact Nat.le_of_mul_le_mul_right (by omega) hv
end low
