/-! A ROUND of payments along a way: forth by new payments, back by old ones -/
theorem holes {m n : Nat} {f : Nat → Nat} (h : ∀ i, i < n → f i < m) (h2 : ∀ i j, i < j → j < n → f i ≠ f j) : n ≤ m := by
  have h3 : ((List.range n).map f).Nodup := by
    show List.Pairwise _ _
    rw [List.pairwise_map]
    refine List.Pairwise.imp_of_mem (R := (· < ·)) ?_ List.pairwise_lt_range
    intro a b _ hb hab
    exact h2 a b hab (List.mem_range.mp hb)
  have h4 := List.Nodup.length_le_of_subset (l₂ := List.range m) h3 (fun x hx => by
    obtain ⟨i, hi, rfl⟩ := List.mem_map.mp hx
    exact List.mem_range.mpr (h i (List.mem_range.mp hi)))
  simpa using h4
def Py0 (n : Nat) (T : Nat → Bool) (a lf : Nat → Int) (pd : Nat → Nat → Int) : Prop :=
  (∀ p, p < n → isP T a p = true → a p = lf p + sZ n (fun o => pd p o)) ∧ (∀ o, o < n → isW T a o = true → - a o = lf o + sZ n (fun p => pd p o))
theorem isPW {T : Nat → Bool} {a : Nat → Int} {c : Nat} (h : isP T a c = true) : isW T a c = false := by
  cases q : isW T a c
  · rfl
  · have := (isP_T h).2; have := (isW_T q).2; omega
theorem sZ_pt (n A : Nat) (m : Int) (hA : A < n) : sZ n (fun o => if o = A then m else 0) = m := by
  rw [sZ_one _ n A hA, if_pos rfl, sZ_congr n (g := fun _ => 0) (fun j _ => by by_cases q : j = A <;> simp [q]), sZ_zero]; omega
/-- pay m more from p0 for o0 -/
theorem py_add {n : Nat} {T : Nat → Bool} {a lf lf' : Nat → Int} {pd pd' : Nat → Nat → Int} {p0 o0 : Nat} {m : Int} (h : Py0 n T a lf pd) (hp : p0 < n) (ho : o0 < n) (hP : isP T a p0 = true) (hW : isW T a o0 = true)
    (hlf : ∀ c, c < n → lf' c = lf c - (if c = p0 ∨ c = o0 then m else 0)) (hpd : ∀ p o, p < n → o < n → pd' p o = pd p o + (if p = p0 ∧ o = o0 then m else 0)) : Py0 n T a lf' pd' := by
  have hne : p0 ≠ o0 := fun q => by rw [q] at hP; rw [isPW hP] at hW; cases hW
  refine ⟨fun p hpn hpP => ?_, fun o hon hoW => ?_⟩
  · have h1 := h.1 p hpn hpP
    have h2 : sZ n (fun o => pd' p o) = sZ n (fun o => pd p o) + (if p = p0 then m else 0) := by
      rw [sZ_congr n (fun o hon => hpd p o hpn hon), sZ_add]
      congr 1
      by_cases q : p = p0
      · rw [if_pos q]
        exact (sZ_congr n fun o _ => by simp [q]).trans (sZ_pt n o0 m ho)
      · rw [if_neg q, sZ_congr n (g := fun _ => 0) (fun o _ => by simp [q]), sZ_zero]
    have hpo : p ≠ o0 := fun q => by rw [q] at hpP; rw [isPW hpP] at hW; cases hW
    rw [h2, hlf p hpn]
    by_cases q : p = p0
    · rw [if_pos q, if_pos (Or.inl q)]; omega
    · rw [if_neg q, if_neg (by omega)]; omega
  · have h1 := h.2 o hon hoW
    have h2 : sZ n (fun p => pd' p o) = sZ n (fun p => pd p o) + (if o = o0 then m else 0) := by
      rw [sZ_congr n (fun p hpn => hpd p o hpn hon), sZ_add]
      congr 1
      by_cases q : o = o0
      · rw [if_pos q]
        exact (sZ_congr n fun p _ => by simp [q]).trans (sZ_pt n p0 m hp)
      · rw [if_neg q, sZ_congr n (g := fun _ => 0) (fun p _ => by simp [q]), sZ_zero]
    have hop : o ≠ p0 := fun q => by rw [q] at hoW; rw [isPW hP] at hoW; cases hoW
    rw [h2, hlf o hon]
    by_cases q : o = o0
    · rw [if_pos q, if_pos (Or.inr q)]; omega
    · rw [if_neg q, if_neg (by omega)]; omega
theorem pay_py {n : Nat} {ov : Nat → Nat → Bool} {T : Nat → Bool} {a lf : Nat → Int} {pd : Nat → Nat → Int} (h : Pay n ov T a lf pd) : Py0 n T a lf pd :=
  ⟨fun p hp k => (h.1 p hp k).2, fun o ho k => (h.2.1 o ho k).2⟩
/-- one more payment, as far as it goes -/
theorem pay_add {n : Nat} {ov : Nat → Nat → Bool} {T : Nat → Bool} {a lf lf' : Nat → Int} {pd pd' : Nat → Nat → Int} {p0 o0 : Nat} {m : Int} (h : Pay n ov T a lf pd) (hp : p0 < n) (ho : o0 < n) (hP : isP T a p0 = true) (hW : isW T a o0 = true) (hov : ov o0 p0 = true)
    (hm : 0 ≤ m) (hm1 : m ≤ lf p0) (hm2 : m ≤ lf o0) (hlf : ∀ c, c < n → lf' c = lf c - (if c = p0 ∨ c = o0 then m else 0)) (hpd : ∀ p o, p < n → o < n → pd' p o = pd p o + (if p = p0 ∧ o = o0 then m else 0)) : Pay n ov T a lf' pd' := by
  have h0 := py_add (pay_py h) hp ho hP hW hlf hpd
  refine ⟨fun p hpn k => ⟨?_, h0.1 p hpn k⟩, fun o hon k => ⟨?_, h0.2 o hon k⟩, fun p o hpn hon => ?_⟩
  · have := (h.1 p hpn k).1
    rw [hlf p hpn]
    by_cases q : p = p0 ∨ p = o0
    · rw [if_pos q]
      rcases q with rfl | rfl <;> omega
    · rw [if_neg q]; omega
  · have := (h.2.1 o hon k).1
    rw [hlf o hon]
    by_cases q : o = p0 ∨ o = o0
    · rw [if_pos q]
      rcases q with rfl | rfl <;> omega
    · rw [if_neg q]; omega
  · have := h.2.2 p o hpn hon
    rw [hpd p o hpn hon]
    by_cases q : p = p0 ∧ o = o0
    · rw [if_pos q]
      obtain ⟨rfl, rfl⟩ := q
      exact ⟨by omega, fun _ => ⟨hP, hW, hov⟩⟩
    · rw [if_neg q, Int.add_zero]; exact this
/-- the payments behind j steps of the way pn: pn 0 who owes, pn 1 who pays, pn 2 .. -/
def pdj (R : Nat) (pn : Nat → Nat) (m : Int) (pd : Nat → Nat → Int) : Nat → Nat → Nat → Int
  | 0 => pd
  | j + 1 => fun p o => pdj R pn m pd j p o + (if p = pn (2 * j + 1) ∧ o = pn (2 * j) then m else 0) - (if 2 * j + 1 < R ∧ p = pn (2 * j + 1) ∧ o = pn (2 * j + 2) then m else 0)
/-- a way: R + 1 of them, all others, by turns -/
def Way (n : Nat) (ov : Nat → Nat → Bool) (T : Nat → Bool) (a : Nat → Int) (pd : Nat → Nat → Int) (e : Nat) (pn : Nat → Nat) : Prop :=
  (∀ i, i ≤ 2 * e + 1 → pn i < n) ∧ (∀ i j, i < j → j ≤ 2 * e + 1 → pn i ≠ pn j) ∧ (∀ i, i ≤ e → isW T a (pn (2 * i)) = true ∧ isP T a (pn (2 * i + 1)) = true ∧ ov (pn (2 * i)) (pn (2 * i + 1)) = true) ∧ ∀ i, i < e → 0 < pd (pn (2 * i + 1)) (pn (2 * i + 2))
section way
variable {n : Nat} {ov : Nat → Nat → Bool} {T : Nat → Bool} {a lf : Nat → Int} {pd : Nat → Nat → Int} {e : Nat} {pn : Nat → Nat} {m : Int}
theorem pdj_no (R : Nat) : ∀ j p, (∀ i, i < j → p ≠ pn (2 * i + 1)) → ∀ o, pdj R pn m pd j p o = pd p o
  | 0, p, _, o => rfl
  | j + 1, p, h, o => by
    show pdj R pn m pd j p o + _ - _ = pd p o
    rw [pdj_no R j p (fun i hi => h i (by omega)) o, if_neg (fun q => h j (by omega) q.1), if_neg (fun q => h j (by omega) q.2.1)]; omega
theorem pdj_at (hw : Way n ov T a pd e pn) : ∀ j, j ≤ e + 1 → ∀ i, i < j → ∀ o, pdj (2 * e + 1) pn m pd j (pn (2 * i + 1)) o = pd (pn (2 * i + 1)) o + (if o = pn (2 * i) then m else 0) - (if i < e ∧ o = pn (2 * i + 2) then m else 0)
  | 0, _, i, hi, _ => by omega
  | j + 1, hj, i, hi, o => by
    show pdj (2 * e + 1) pn m pd j (pn (2 * i + 1)) o + (if pn (2 * i + 1) = pn (2 * j + 1) ∧ o = pn (2 * j) then m else 0) - (if 2 * j + 1 < 2 * e + 1 ∧ pn (2 * i + 1) = pn (2 * j + 1) ∧ o = pn (2 * j + 2) then m else 0) = _
    rcases Nat.lt_or_ge i j with q | q
    · have hne : pn (2 * i + 1) ≠ pn (2 * j + 1) := hw.2.1 _ _ (by omega) (by omega)
      have z1 : (if pn (2 * i + 1) = pn (2 * j + 1) ∧ o = pn (2 * j) then m else 0) = 0 := if_neg (fun q => hne q.1)
      have z2 : (if 2 * j + 1 < 2 * e + 1 ∧ pn (2 * i + 1) = pn (2 * j + 1) ∧ o = pn (2 * j + 2) then m else 0) = 0 := if_neg (fun q => hne q.2.1)
      rw [pdj_at hw j (by omega) i q o, z1, z2]; omega
    · have : i = j := by omega
      subst this
      rw [pdj_no (2 * e + 1) i (pn (2 * i + 1)) (fun k hk q => hw.2.1 _ _ (show 2 * k + 1 < 2 * i + 1 by omega) (by omega) q.symm) o]
      congr 1
      · congr 1
        by_cases c : o = pn (2 * i)
        · rw [if_pos c, if_pos ⟨rfl, c⟩]
        · rw [if_neg c, if_neg (fun q => c q.2)]
      · by_cases c : i < e ∧ o = pn (2 * i + 2)
        · rw [if_pos c, if_pos ⟨by omega, rfl, c.2⟩]
        · rw [if_neg c, if_neg (fun q => c ⟨by omega, q.2.2⟩)]
theorem way_py (hw : Way n ov T a pd e pn) (h : Py0 n T a lf pd) : ∀ j, j ≤ e → Py0 n T a (fun c => lf c - (if c = pn 0 ∨ c = pn (2 * e + 1) then m else 0) + (if c = pn (2 * e + 1) ∨ c = pn (2 * j) then m else 0)) (pdj (2 * e + 1) pn m pd j)
  | 0, _ => by
    have e1 : (fun c => lf c - (if c = pn 0 ∨ c = pn (2 * e + 1) then m else 0) + (if c = pn (2 * e + 1) ∨ c = pn (2 * 0) then m else 0)) = lf := by
      funext c
      have : (if c = pn (2 * e + 1) ∨ c = pn (2 * 0) then m else 0) = (if c = pn 0 ∨ c = pn (2 * e + 1) then m else 0) := by
        by_cases q : c = pn 0 ∨ c = pn (2 * e + 1)
        · rw [if_pos q, if_pos (by rw [Nat.mul_zero]; omega)]
        · rw [if_neg q, if_neg (by rw [Nat.mul_zero]; omega)]
      rw [this]; omega
    rw [e1]; exact h
  | j + 1, hj => by
    have ih := way_py hw h j (by omega)
    have hj1 := hw.2.2.1 j (by omega)
    have hj2 := hw.2.2.1 (j + 1) hj
    have d1 : pn (2 * e + 1) ≠ pn (2 * j) := fun q => hw.2.1 (2 * j) (2 * e + 1) (by omega) (by omega) q.symm
    have d2 : pn (2 * e + 1) ≠ pn (2 * j + 1) := fun q => hw.2.1 (2 * j + 1) (2 * e + 1) (by omega) (by omega) q.symm
    have d3 : pn (2 * e + 1) ≠ pn (2 * j + 2) := fun q => hw.2.1 (2 * j + 2) (2 * e + 1) (by omega) (by omega) q.symm
    have d4 : pn (2 * j) ≠ pn (2 * j + 1) := hw.2.1 (2 * j) (2 * j + 1) (by omega) (by omega)
    have d5 : pn (2 * j) ≠ pn (2 * j + 2) := hw.2.1 (2 * j) (2 * j + 2) (by omega) (by omega)
    have d6 : pn (2 * j + 1) ≠ pn (2 * j + 2) := hw.2.1 (2 * j + 1) (2 * j + 2) (by omega) (by omega)
    have s1 := py_add (m := m) (lf' := fun c => lf c - (if c = pn 0 ∨ c = pn (2 * e + 1) then m else 0) + (if c = pn (2 * e + 1) ∨ c = pn (2 * j) then m else 0) - (if c = pn (2 * j + 1) ∨ c = pn (2 * j) then m else 0)) (pd' := fun p o => pdj (2 * e + 1) pn m pd j p o + (if p = pn (2 * j + 1) ∧ o = pn (2 * j) then m else 0)) ih (hw.1 (2 * j + 1) (by omega)) (hw.1 (2 * j) (by omega)) hj1.2.1 hj1.1 (fun c _ => rfl) (fun p o _ _ => rfl)
    refine py_add (m := -m) s1 (hw.1 (2 * j + 1) (by omega)) (hw.1 (2 * j + 2) (by omega)) hj1.2.1 hj2.1 (fun c _ => ?_) (fun p o _ _ => ?_)
    · show lf c - _ + (if c = pn (2 * e + 1) ∨ c = pn (2 * j + 2) then m else 0) = lf c - _ + (if c = pn (2 * e + 1) ∨ c = pn (2 * j) then m else 0) - (if c = pn (2 * j + 1) ∨ c = pn (2 * j) then m else 0) - (if c = pn (2 * j + 1) ∨ c = pn (2 * j + 2) then -m else 0)
      generalize (if c = pn 0 ∨ c = pn (2 * e + 1) then m else 0) = z
      by_cases c1 : c = pn (2 * e + 1)
      · rw [if_pos (Or.inl c1), if_pos (Or.inl c1), if_neg (by rw [c1]; omega), if_neg (by rw [c1]; omega)]; omega
      · by_cases c2 : c = pn (2 * j)
        · rw [if_neg (by rw [c2]; omega), if_pos (Or.inr c2), if_pos (Or.inr c2), if_neg (by rw [c2]; omega)]; omega
        · by_cases c3 : c = pn (2 * j + 1)
          · rw [if_neg (by rw [c3]; omega), if_neg (by rw [c3]; omega), if_pos (Or.inl c3), if_pos (Or.inl c3)]; omega
          · by_cases c4 : c = pn (2 * j + 2)
            · rw [if_pos (Or.inr c4), if_neg (by rw [c4]; omega), if_neg (by rw [c4]; omega), if_pos (Or.inr c4)]; omega
            · rw [if_neg (by omega), if_neg (by omega), if_neg (by omega), if_neg (by omega)]; omega
    · show pdj (2 * e + 1) pn m pd j p o + _ - _ = pdj (2 * e + 1) pn m pd j p o + _ + _
      generalize (if p = pn (2 * j + 1) ∧ o = pn (2 * j) then m else 0) = z
      by_cases c : p = pn (2 * j + 1) ∧ o = pn (2 * j + 2)
      · rw [if_pos ⟨by omega, c⟩, if_pos c]; omega
      · rw [if_neg (fun q => c q.2), if_neg c]; omega
/-- the round, done -/
theorem way_pay (hw : Way n ov T a pd e pn) (h : Pay n ov T a lf pd) (hm : 0 ≤ m) (hm0 : m ≤ lf (pn 0)) (hmR : m ≤ lf (pn (2 * e + 1))) (hmi : ∀ i, i < e → m ≤ pd (pn (2 * i + 1)) (pn (2 * i + 2))) :
    Pay n ov T a (fun c => lf c - (if c = pn 0 ∨ c = pn (2 * e + 1) then m else 0)) (pdj (2 * e + 1) pn m pd (e + 1)) := by
  have h1 := way_py (m := m) hw (pay_py h) e (Nat.le_refl _)
  have he := hw.2.2.1 e (Nat.le_refl _)
  have d : pn (2 * e) ≠ pn (2 * e + 1) := hw.2.1 _ _ (by omega) (by omega)
  have h0 : Py0 n T a (fun c => lf c - (if c = pn 0 ∨ c = pn (2 * e + 1) then m else 0)) (pdj (2 * e + 1) pn m pd (e + 1)) := by
    refine py_add (m := m) h1 (hw.1 (2 * e + 1) (by omega)) (hw.1 (2 * e) (by omega)) he.2.1 he.1 (fun c _ => ?_) (fun p o _ _ => ?_)
    · generalize (if c = pn 0 ∨ c = pn (2 * e + 1) then m else 0) = z
      show lf c - z = lf c - z + _ - _
      omega
    · have z2 : (if 2 * e + 1 < 2 * e + 1 ∧ p = pn (2 * e + 1) ∧ o = pn (2 * e + 2) then m else 0) = 0 := if_neg (fun q => Nat.lt_irrefl _ q.1)
      show pdj (2 * e + 1) pn m pd e p o + _ - (if 2 * e + 1 < 2 * e + 1 ∧ p = pn (2 * e + 1) ∧ o = pn (2 * e + 2) then m else 0) = _
      rw [z2]; omega
  refine ⟨fun p hpn k => ⟨?_, h0.1 p hpn k⟩, fun o hon k => ⟨?_, h0.2 o hon k⟩, fun p o hpn hon => ?_⟩
  · have := (h.1 p hpn k).1
    show 0 ≤ lf p - (if p = pn 0 ∨ p = pn (2 * e + 1) then m else 0)
    split
    · rename_i q; rcases q with q | q <;> rw [q] <;> omega
    · omega
  · have := (h.2.1 o hon k).1
    show 0 ≤ lf o - (if o = pn 0 ∨ o = pn (2 * e + 1) then m else 0)
    split
    · rename_i q; rcases q with q | q <;> rw [q] <;> omega
    · omega
  · have hpd := h.2.2 p o hpn hon
    by_cases c : ∃ i, i ≤ e ∧ p = pn (2 * i + 1)
    · obtain ⟨i, hi, rfl⟩ := c
      rw [pdj_at hw (e + 1) (Nat.le_refl _) i (by omega) o]
      have hi1 := hw.2.2.1 i hi
      by_cases c1 : o = pn (2 * i)
      · subst c1
        have d3 : pn (2 * i) ≠ pn (2 * i + 2) ∨ ¬ i < e := by
          rcases Nat.lt_or_ge i e with q | q
          · exact Or.inl (hw.2.1 _ _ (by omega) (by omega))
          · exact Or.inr (by omega)
        rw [if_pos rfl, if_neg (by omega)]
        exact ⟨by omega, fun _ => ⟨hi1.2.1, hi1.1, hi1.2.2⟩⟩
      · rw [if_neg c1]
        by_cases c2 : i < e ∧ o = pn (2 * i + 2)
        · rw [if_pos c2]
          have h5 := hmi i c2.1
          have h6 := hw.2.2.2 i c2.1
          rw [← c2.2] at h5 h6
          exact ⟨by omega, fun _ => hpd.2 (by omega)⟩
        · rw [if_neg c2]
          exact ⟨by omega, fun q => hpd.2 (by omega)⟩
    · rw [pdj_no (2 * e + 1) (e + 1) p (fun i hi q => c ⟨i, by omega, q⟩) o]
      exact hpd
/-- and the tally of rounds falls -/
theorem way_pot {P O : Nat → Bool} (hP : P = isP T a) (hO : O = isW T a) (hw : Way n ov T a pd e pn) (h : Pay n ov T a lf pd) (h' : Pay n ov T a (fun c => lf c - (if c = pn 0 ∨ c = pn (2 * e + 1) then m else 0)) (pdj (2 * e + 1) pn m pd (e + 1))) (hm : 0 < m)
    (rk : Nat → Nat) (hr39 : ∀ i, i ≤ 2 * e + 1 → rk (pn i) = 2 * e + 1 - i) (hlev : ∀ i, i ≤ 2 * e + 1 → lev n ov P O lf pd (rk (pn i)) (pn i) = true) (hex : ∀ i k, i ≤ 2 * e + 1 → lev n ov P O lf pd k (pn i) = true → rk (pn i) ≤ k) (h16 : 2 * e + 1 ≤ 39)
    (hlt : m = lf (pn 0) ∨ m = lf (pn (2 * e + 1)) ∨ ∃ i, i < e ∧ m = pd (pn (2 * i + 1)) (pn (2 * i + 2)))
    (hl0 : 0 < lf (pn 0)) (hlR : 0 < lf (pn (2 * e + 1))) : pot n ov P O (fun c => lf c - (if c = pn 0 ∨ c = pn (2 * e + 1) then m else 0)) (pdj (2 * e + 1) pn m pd (e + 1)) < pot n ov P O lf pd := by
  subst hP hO
  have hle : ∀ v, 0 < lf v - (if v = pn 0 ∨ v = pn (2 * e + 1) then m else 0) → 0 < lf v := fun v q => by
    by_cases c : v = pn 0 ∨ v = pn (2 * e + 1)
    · rw [if_pos c] at q; omega
    · rw [if_neg c] at q; omega
  have edge : ∀ i, i + 1 ≤ 2 * e + 1 → lev n ov (isP T a) (isW T a) lf pd 39 (pn (i + 1)) = true ∧ ∀ k, lev n ov (isP T a) (isW T a) lf pd k (pn i) = true → ∃ j, k = j + 1 ∧ lev n ov (isP T a) (isW T a) lf pd j (pn (i + 1)) = true := by
    intro i hi
    have r1 := hr39 i (by omega)
    have r2 := hr39 (i + 1) hi
    refine ⟨lev_up (by omega) (hlev (i + 1) hi), fun k hk => ?_⟩
    have := hex i k (by omega) hk
    exact ⟨k - 1, by omega, lev_up (by omega) (hlev (i + 1) hi)⟩
  refine pot_lt (fun v _ => hle v) (fun v _ => hle v) (fun p o hp ho q => ?_) (fun p o hp ho q q' => ?_) (fun p o hp ho q q' => ?_) ?_
  · rcases q with q | q
    · exact ⟨((h'.2.2 p o hp ho).2 q).1, ((h'.2.2 p o hp ho).2 q).2.1⟩
    · exact ⟨((h.2.2 p o hp ho).2 q).1, ((h.2.2 p o hp ho).2 q).2.1⟩
  · by_cases c : ∃ i, i ≤ e ∧ p = pn (2 * i + 1)
    · obtain ⟨i, hi, rfl⟩ := c
      rw [pdj_at hw (e + 1) (Nat.le_refl _) i (by omega) o] at q'
      by_cases c1 : o = pn (2 * i)
      · subst c1; exact edge (2 * i) (by omega)
      · rw [if_neg c1] at q'
        by_cases c2 : i < e ∧ o = pn (2 * i + 2)
        · have := hw.2.2.2 i c2.1
          rw [← c2.2] at this; omega
        · rw [if_neg c2] at q'; omega
    · rw [pdj_no (2 * e + 1) (e + 1) p (fun i hi q => c ⟨i, by omega, q⟩) o] at q'
      exact absurd q q'
  · by_cases c : ∃ i, i ≤ e ∧ p = pn (2 * i + 1)
    · obtain ⟨i, hi, rfl⟩ := c
      rw [pdj_at hw (e + 1) (Nat.le_refl _) i (by omega) o] at q'
      by_cases c2 : i < e ∧ o = pn (2 * i + 2)
      · rw [c2.2]
        exact edge (2 * i + 1) (by omega)
      · rw [if_neg c2] at q'
        have hpd := (h.2.2 _ o hp ho).1
        split at q' <;> omega
    · rw [pdj_no (2 * e + 1) (e + 1) p (fun i hi q => c ⟨i, by omega, q⟩) o] at q'
      exact absurd q' q
  · rcases hlt with c | c | ⟨i, hi, c⟩
    · exact Or.inl ⟨pn 0, hw.1 0 (by omega), hl0, by rw [if_pos (Or.inl rfl)]; omega⟩
    · exact Or.inl ⟨pn (2 * e + 1), hw.1 _ (by omega), hlR, by rw [if_pos (Or.inr rfl)]; omega⟩
    · refine Or.inr ⟨pn (2 * i + 1), pn (2 * i + 2), hw.1 _ (by omega), hw.1 _ (by omega), ?_, ?_⟩
      · have := hw.2.2.2 i hi; omega
      · rw [pdj_at hw (e + 1) (Nat.le_refl _) i (by omega), if_neg (fun q => hw.2.1 (2 * i) (2 * i + 2) (by omega) (by omega) q.symm), if_pos ⟨hi, rfl⟩]; omega
end way
