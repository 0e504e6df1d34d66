/-! THE BLOCKS BY SQUARES: parting by the choice of most worth gives the nearest -/
def wT (w : Nat → Nat) (T : Nat → Bool) : Nat := sN 16 (fun c => if T c = true then w c else 0)
def gT (w g : Nat → Nat) (T : Nat → Bool) : Nat := sN 16 (fun c => if T c = true then w c * g c else 0)
def qT (w g : Nat → Nat) (T : Nat → Bool) : Nat := sN 16 (fun c => if T c = true then w c * g c * g c else 0)
def wo (w g : Nat → Nat) (T : Nat → Bool) (c : Nat) : Int := (w c : Int) * ((g c : Int) * (wT w T : Int) - (gT w g T : Int))
def mT (w g : Nat → Nat) (T : Nat → Bool) : Rat := mkRat (gT w g T : Nat) (wT w T)
def qF (f : Nat → Nat) : Nat → Rat := fun c => ((f c : Nat) : Rat)
theorem sQ_castN (f : Nat → Nat) : ∀ n, sQ n (fun k => ((f k : Nat) : Rat)) = ((sN n f : Nat) : Rat)
  | 0 => rfl
  | n + 1 => by
    show sQ n (fun k => ((f k : Nat) : Rat)) + ((f n : Nat) : Rat) = ((sN n f + f n : Nat) : Rat)
    rw [sQ_castN f n]; grind
theorem sT_castN (T : Nat → Bool) (f : Nat → Nat) : sT 16 T (fun k => ((f k : Nat) : Rat)) = ((sN 16 (fun c => if T c = true then f c else 0) : Nat) : Rat) := by
  rw [← sQ_castN]
  exact sQ_congr 16 fun c _ => by by_cases q : T c = true <;> simp [q]
theorem mT_eq {w g : Nat → Nat} {T : Nat → Bool} (h : 0 < wT w T) : mT w g T * ((wT w T : Nat) : Rat) = ((gT w g T : Nat) : Rat) := by
  rw [mT, Rat.mkRat_eq_div]
  have h2 : ((wT w T : Nat) : Rat) ≠ 0 := by
    have := Rat.natCast_pos.mpr h
    intro q; rw [q] at this; exact absurd this Rat.lt_irrefl
  exact Rat.div_mul_cancel h2
theorem icn (k : Nat) : (((k : Nat) : Int) : Rat) = ((k : Nat) : Rat) := rfl
theorem part_d {x y : Bool} (h : y = true → x = true) : (x = true ↔ y = true ∨ (x && !y) = true) ∧ ¬ (y = true ∧ (x && !y) = true) := by
  revert h; cases x <;> cases y <;> simp
theorem part_u {t u v : Bool} (h : v = true → (t && !u) = true) : ((u || v) = true ↔ u = true ∨ v = true) ∧ ¬ (u = true ∧ v = true) := by
  revert h; cases t <;> cases u <;> cases v <;> simp
section sq
variable {w g : Nat → Nat} {T U V : Nat → Bool} {ov : Nat → Nat → Bool}
theorem wo_sum (h : 0 < wT w T) : ((sS 16 V (wo w g T) : Int) : Rat) = ((wT w T : Nat) : Rat) * sT 16 V (fun c => qF w c * (qF g c - mT w g T)) := by
  have hm := mT_eq (w := w) (g := g) h
  rw [← sT_mul, sS, ← sQ_cast]
  refine sQ_congr 16 fun c _ => ?_
  by_cases q : V c = true
  · simp only [q, if_true]
    show (((w c : Int) * ((g c : Int) * (wT w T : Int) - (gT w g T : Int)) : Int) : Rat) = ((wT w T : Nat) : Rat) * (((w c : Nat) : Rat) * (((g c : Nat) : Rat) - mT w g T))
    have e : (((w c : Int) * ((g c : Int) * (wT w T : Int) - (gT w g T : Int)) : Int) : Rat) = ((w c : Nat) : Rat) * (((g c : Nat) : Rat) * ((wT w T : Nat) : Rat) - ((gT w g T : Nat) : Rat)) := by
      rw [Rat.intCast_mul, Rat.intCast_sub, Rat.intCast_mul]; rfl
    rw [e, ← hm]; grind
  · simp [q]
theorem sT_0 (h : 0 < wT w T) : sT 16 T (fun c => qF w c * (qF g c - mT w g T)) = 0 := by
  have hm := mT_eq (w := w) (g := g) h
  have e1 : sT 16 T (fun c => qF w c * (qF g c - mT w g T)) = sT 16 T (fun c => ((w c * g c : Nat) : Rat)) - mT w g T * sT 16 T (fun c => ((w c : Nat) : Rat)) := by
    rw [← sT_mul, ← sT_sub]
    refine sT_congr fun c _ _ => ?_
    show ((w c : Nat) : Rat) * (((g c : Nat) : Rat) - mT w g T) = ((w c * g c : Nat) : Rat) - mT w g T * ((w c : Nat) : Rat)
    grind
  rw [e1, sT_castN, sT_castN]
  show ((gT w g T : Nat) : Rat) - mT w g T * ((wT w T : Nat) : Rat) = 0
  rw [hm]; grind
theorem wT_pos (hw : ∀ c, c < 16 → T c = true → 0 < w c) {c : Nat} (hc : c < 16) (h : T c = true) : 0 < wT w T := by
  have h1 := sN_lt (f := fun _ => 0) (g := fun c => if T c = true then w c else 0) 16 (fun _ _ => Nat.zero_le _) ⟨c, hc, by simp [h, hw c hc h]⟩
  have h2 : sN 16 (fun _ => 0) = 0 := rfl
  rw [h2] at h1; exact h1
/-- no part is worth anything: the mean -/
theorem sq_leaf (hp : 0 < wT w T) (h : MX 16 ov T (wo w g T) (fun _ => false)) : VI 16 ov T (qF w) (qF g) (fun _ => mT w g T) := by
  have hW : 0 < ((wT w T : Nat) : Rat) := Rat.natCast_pos.mpr hp
  refine VI_leaf (sT_0 hp) fun V hV => ?_
  have h1 := (h.2 V hV).1
  have e0 : sS 16 (fun _ => false) (wo w g T) = 0 := by rw [sS, sZ_congr 16 (g := fun _ => 0) (fun _ _ => by simp), sZ_zero]
  rw [e0] at h1
  have h2 : ((sS 16 V (wo w g T) : Int) : Rat) ≤ ((0 : Int) : Rat) := Rat.intCast_le_intCast.mpr h1
  rw [wo_sum hp] at h2
  have h3 : ((wT w T : Nat) : Rat) * sT 16 V (fun c => qF w c * (qF g c - mT w g T)) ≤ ((wT w T : Nat) : Rat) * 0 := by
    rw [Rat.mul_zero]; exact h2
  exact Rat.le_of_mul_le_mul_left h3 hW
/-- parted: both parts fitted, it is fitted -/
theorem sq_glue {f : Nat → Rat} (hw : ∀ c, c < 16 → T c = true → 0 < w c) (hp : 0 < wT w T) (h : MX 16 ov T (wo w g T) U) (hU : VI 16 ov U (qF w) (qF g) f) (hL : VI 16 ov (dB T U) (qF w) (qF g) f) : VI 16 ov T (qF w) (qF g) f := by
  have hW : 0 < ((wT w T : Nat) : Rat) := Rat.natCast_pos.mpr hp
  have hwq : ∀ c, c < 16 → T c = true → 0 < qF w c := fun c hc ht => Rat.natCast_pos.mpr (hw c hc ht)
  have cmp : ∀ V, upO 16 ov T V → sT 16 V (fun c => qF w c * (qF g c - mT w g T)) ≤ sT 16 U (fun c => qF w c * (qF g c - mT w g T)) := by
    intro V hV
    have h2 : ((sS 16 V (wo w g T) : Int) : Rat) ≤ ((sS 16 U (wo w g T) : Int) : Rat) := Rat.intCast_le_intCast.mpr (h.2 V hV).1
    rw [wo_sum hp, wo_sum hp] at h2
    exact Rat.le_of_mul_le_mul_left h2 hW
  have hT : ∀ c, c < 16 → (T c = true ↔ U c = true ∨ dB T U c = true) ∧ ¬ (U c = true ∧ dB T U c = true) := fun c hc => by
    have := h.1.1 c hc
    cases ht : T c <;> cases hu : U c <;> simp_all [dB]
  have hUT := h.1.1
  have hLT : ∀ c, c < 16 → dB T U c = true → T c = true := fun c _ hh => by simp only [dB, Bool.and_eq_true] at hh; exact hh.1
  refine VI_glue (m := mT w g T) hT (fun a b ha hb hLa hUb => ?_) hU hL (VI_lo (fun c hc hh => hwq c hc (hUT c hc hh)) hU fun V hV => ?_) (VI_hi (fun c hc hh => hwq c hc (hLT c hc hh)) hL fun V hV => ?_)
  · cases q : ov a b
    · rfl
    · have := h.1.2 a b ha hb (hLT a ha hLa) hUb q
      exact absurd ⟨this, hLa⟩ (hT a ha).2
  · -- what is below within U is worth something
    have h1 : upO 16 ov T (dB U V) := by
      refine ⟨fun c hc hh => ?_, fun x y hx hy hTx hh ho => ?_⟩
      · simp only [dB, Bool.and_eq_true] at hh; exact hUT c hc hh.1
      · simp only [dB, Bool.and_eq_true, Bool.not_eq_true'] at hh ⊢
        have hUx := h.1.2 x y hx hy hTx hh.1 ho
        refine ⟨hUx, ?_⟩
        cases z : V x
        · rfl
        · have := hV.2 y x hy hx hh.1 z ho
          rw [this] at hh; exact absurd hh.2 (by decide)
    have h2 := cmp _ h1
    have h3 := sT_parts (n := 16) (T := U) (U := V) (L := dB U V) (fun c => qF w c * (qF g c - mT w g T)) (fun c hc => part_d (hV.1 c hc))
    grind
  · have h1 : upO 16 ov T (uB U V) := by
      refine ⟨fun c hc hh => ?_, fun x y hx hy hTx hh ho => ?_⟩
      · simp only [uB, Bool.or_eq_true] at hh
        rcases hh with hh | hh
        · exact hUT c hc hh
        · exact hLT c hc (hV.1 c hc hh)
      · simp only [uB, Bool.or_eq_true] at hh ⊢
        rcases hh with hh | hh
        · exact Or.inl (h.1.2 x y hx hy hTx hh ho)
        · cases z : U x
          · refine Or.inr (hV.2 x y hx hy ?_ hh ho)
            simp [dB, hTx, z]
          · exact Or.inl rfl
    have h2 := cmp _ h1
    have h3 := sT_parts (n := 16) (T := uB U V) (U := U) (L := V) (fun c => qF w c * (qF g c - mT w g T)) (fun c hc => part_u (hV.1 c hc))
    grind
/-- what a block costs -/
theorem sq_cost (hp : 0 < wT w T) : sT 16 T (fun c => qF w c * ((qF g c - mT w g T) * (qF g c - mT w g T))) = mkRat ((qT w g T : Int) * (wT w T : Int) - (gT w g T : Int) * (gT w g T : Int)) (wT w T) := by
  have hm := mT_eq (w := w) (g := g) hp
  have hW : ((wT w T : Nat) : Rat) ≠ 0 := by
    have := Rat.natCast_pos.mpr hp
    intro q; rw [q] at this; exact absurd this Rat.lt_irrefl
  have e1 : sT 16 T (fun c => qF w c * ((qF g c - mT w g T) * (qF g c - mT w g T))) = sT 16 T (fun c => ((w c * g c * g c : Nat) : Rat)) - (2 * mT w g T) * sT 16 T (fun c => ((w c * g c : Nat) : Rat)) + (mT w g T * mT w g T) * sT 16 T (fun c => ((w c : Nat) : Rat)) := by
    rw [← sT_mul, ← sT_mul, ← sT_sub, ← sT_add]
    refine sT_congr fun c _ _ => ?_
    show ((w c : Nat) : Rat) * ((((g c : Nat) : Rat) - mT w g T) * (((g c : Nat) : Rat) - mT w g T)) = _
    grind
  rw [e1, sT_castN, sT_castN, sT_castN]
  show ((qT w g T : Nat) : Rat) - (2 * mT w g T) * ((gT w g T : Nat) : Rat) + (mT w g T * mT w g T) * ((wT w T : Nat) : Rat) = _
  rw [Rat.mkRat_eq_div]
  have e2 : ((((qT w g T : Int) * (wT w T : Int) - (gT w g T : Int) * (gT w g T : Int) : Int)) : Rat) = ((qT w g T : Nat) : Rat) * ((wT w T : Nat) : Rat) - ((gT w g T : Nat) : Rat) * ((gT w g T : Nat) : Rat) := by
    rw [Rat.intCast_sub, Rat.intCast_mul, Rat.intCast_mul]; rfl
  rw [e2, ← hm]
  clear e1 e2 hm
  grind
end sq
