/-! THE CALLS: keep, back: the class -/
def stK (s : St) (i : Nat) : St := (s.1, s.2.1, s.S, (s.D, s.U), fun j => if j = i then (true, s.B) else s.x j)
noncomputable def stKp (s : St) (x : Int32) : St := if dP (isN x 3) = true then stK s x.toNatClampNeg else s
noncomputable def qKe (s : St) (x : Int32) : Int32 := if dP (isN x 3) = true then nI (bN s.B) else -1
noncomputable def bkB (s : St) (x : Int32) : Bool := dP (isN x 3) && (s.x x.toNatClampNeg).1
noncomputable def stBk (s : St) (x : Int32) : St := if bkB s x = true then stQ s (s.x x.toNatClampNeg).2 (bN (s.x x.toNatClampNeg).2) [] [] else s
noncomputable def qBa (s : St) (x : Int32) : Int32 := if bkB s x = true then nI (bN (s.x x.toNatClampNeg).2) else -1
theorem bk_less {lv : Nat} {B : Bk} (h : BkOk lv B) : BkOk (bN B) B := by
  obtain ⟨k1, ⟨k2, k3⟩, k4, k5, k6, k7⟩ := h
  exact ⟨k1, ⟨Nat.le_refl _, by omega⟩, k4, k5, fun c hc => k6 c (by omega), k7⟩
theorem ok_stK {s : St} {i : Nat} (ok : OkS s) : OkS (stK s i) := by
  refine ⟨ok.1, ok.2.1, ok.2.2.1, ok.2.2.2.1, fun j hj hx => ?_⟩
  have hx : (if j = i then (true, s.B) else s.x j).1 = true := hx
  show BxOk s.n0 s.B (if j = i then (true, s.B) else s.x j).2
  by_cases q : j = i
  · rw [if_pos q]
    exact ⟨rfl, rfl, rfl, rfl, rfl, rfl, bk_less ok.2.1.1, ok.2.1.2.1.1⟩
  · rw [if_neg q] at hx ⊢
    exact ok.2.2.2.2 j hj hx
theorem ok_stBk {s : St} {i : Nat} (ok : OkS s) (hi : i < 3) (hx : (s.x i).1 = true) : OkS (stQ s (s.x i).2 (bN (s.x i).2) [] []) := by
  obtain ⟨e1, e2, e3, e4, e5, e6, h7, h8⟩ := ok.2.2.2.2 i hi hx
  refine ok_stQ ok ⟨h7, h8, fun t ht => ?_⟩ ⟨e1, e2, e3, e4, e5, e6⟩ (by decide) True.intro True.intro
  rw [e4] at ht
  rw [e5, e6]; exact ok.2.1.2.1.2 t ht
section boxes
variable {Θ : Th} {d : Nat} {σ : Mem} {Q : Po} {s : St}
theorem cp0 {τ : Mem} {a b : Nat} {n : Int32} {k : Nat} (hn : n.toNatClampNeg = k) : (∀ i, (cpI τ a 0 b 0 n).1 b i = if i < k then τ.1 a i else τ.1 b i) ∧ (∀ l, l ≠ b → (cpI τ a 0 b 0 n).1 l = τ.1 l) ∧ (cpI τ a 0 b 0 n).2 = τ.2 := by
  refine ⟨fun i => ?_, fun l hl => by funext y; simp [cpI, hl], rfl⟩
  show (if b = b then va_cpy (τ.1 a) (τ.1 b) (0 : Int32).toNatClampNeg (0 : Int32).toNatClampNeg n.toNatClampNeg i else τ.1 b i) = _
  rw [if_pos rfl, hn, show (0 : Int32).toNatClampNeg = 0 by decide]
  by_cases q : i < k
  · rw [pk_cpy_in (by omega) (by omega), if_pos q, show 0 + (i - 0) = i by omega]
  · rw [pk_cpy_out (by omega), if_neg q]
theorem k19 {o p : Nat} (ho : (shq o).1 = 1) (hp : (shq p).1 = 1) (hd : o + 7 < p ∨ p + 7 < o)
    (K : ∀ σ', Fr [o, o + 3, o + 4, o + 5, o + 6, o + 7] σ σ' → (σ'.1 o 3 = σ.1 p 3 ∧ σ'.1 o 4 = σ.1 p 4 ∧ ∀ y, y ≠ 3 → y ≠ 4 → σ'.1 o y = σ.1 o y) → (∀ l, 3 ≤ l → l ≤ 6 → ∀ i, i < 16 → σ'.1 (o + l) i = σ.1 (p + l) i) → (∀ i, i < 96 → σ'.1 (o + 7) i = σ.1 (p + 7) i) → (∀ i, 96 ≤ i → σ'.1 (o + 7) i = σ.1 (o + 7) i) → Q none σ') : Cm Θ (d + 1) 19 [.ref o, .ref p] σ Q := by
  have e16 : (16 : Int32).toNatClampNeg = 16 := by decide
  have e96 : (96 : Int32).toNatClampNeg = 96 := by decide
  refine K19 (B19_0 ho hp ?_)
  have e0 : (sI σ o 3 (σ.1 p 3)).1 p 4 = σ.1 p 4 := sI_of _ _ (by omega)
  rw [e0]
  obtain ⟨τ, hτ⟩ : ∃ τ, τ = sI (sI σ o 3 (σ.1 p 3)) o 4 (σ.1 p 4) := ⟨_, rfl⟩
  rw [← hτ]
  have f0 : Fr [o] σ τ := by rw [hτ]; exact (Fr.rfl.I (by simp)).I (by simp)
  have t0 : ∀ l, l ≠ o → τ.1 l = σ.1 l := fun l hl => (f0 l (by simp; exact hl)).1
  obtain ⟨a1, a2, a3⟩ := cp0 (τ := τ) (a := p + 3) (b := o + 3) e16
  obtain ⟨τ1, h1⟩ : ∃ τ1, τ1 = cpI τ (p + 3) 0 (o + 3) 0 16 := ⟨_, rfl⟩
  rw [← h1] at a1 a2 a3 ⊢
  obtain ⟨b1, b2, b3⟩ := cp0 (τ := τ1) (a := p + 4) (b := o + 4) e16
  obtain ⟨τ2, h2⟩ : ∃ τ2, τ2 = cpI τ1 (p + 4) 0 (o + 4) 0 16 := ⟨_, rfl⟩
  rw [← h2] at b1 b2 b3 ⊢
  obtain ⟨c1, c2, c3⟩ := cp0 (τ := τ2) (a := p + 5) (b := o + 5) e16
  obtain ⟨τ3, h3⟩ : ∃ τ3, τ3 = cpI τ2 (p + 5) 0 (o + 5) 0 16 := ⟨_, rfl⟩
  rw [← h3] at c1 c2 c3 ⊢
  obtain ⟨d1, d2, d3⟩ := cp0 (τ := τ3) (a := p + 6) (b := o + 6) e16
  obtain ⟨τ4, h4⟩ : ∃ τ4, τ4 = cpI τ3 (p + 6) 0 (o + 6) 0 16 := ⟨_, rfl⟩
  rw [← h4] at d1 d2 d3 ⊢
  obtain ⟨g1, g2, g3⟩ := cp0 (τ := τ4) (a := p + 7) (b := o + 7) e96
  obtain ⟨τ5, h5⟩ : ∃ τ5, τ5 = cpI τ4 (p + 7) 0 (o + 7) 0 96 := ⟨_, rfl⟩
  rw [← h5] at g1 g2 g3 ⊢
  have far : ∀ l, l ≠ o → l ≠ o + 3 → l ≠ o + 4 → l ≠ o + 5 → l ≠ o + 6 → l ≠ o + 7 → τ5.1 l = σ.1 l := fun l q0 q1 q2 q3 q4 q5 => by
    rw [g2 l q5, d2 l q4, c2 l q3, b2 l q2, a2 l q1, t0 l q0]
  have eo : τ5.1 o = τ.1 o := by rw [g2 o (by omega), d2 o (by omega), c2 o (by omega), b2 o (by omega), a2 o (by omega)]
  refine K τ5 (fun l hl => ⟨far l (fun q => hl (by simp [q])) (fun q => hl (by simp [q])) (fun q => hl (by simp [q])) (fun q => hl (by simp [q])) (fun q => hl (by simp [q])) (fun q => hl (by simp [q])), ?_, ?_⟩) ⟨?_, ?_, fun y h3' h4' => ?_⟩ (fun l l1 l2 i hi => ?_) (fun i hi => ?_) (fun i hi => ?_)
  · rw [g3, d3, c3, b3, a3, hτ]; rfl
  · rw [g3, d3, c3, b3, a3, hτ]; rfl
  · rw [eo, hτ, sI_of _ _ (by omega), sI_at]
  · rw [eo, hτ, sI_at]
  · rw [eo, hτ, sI_of _ _ (by omega), sI_of _ _ (by omega)]
  · rcases (show l = 3 ∨ l = 4 ∨ l = 5 ∨ l = 6 by omega) with w | w | w | w <;> subst w
    · rw [g2 _ (by omega), d2 _ (by omega), c2 _ (by omega), b2 _ (by omega), a1, if_pos hi, t0 _ (by omega)]
    · rw [g2 _ (by omega), d2 _ (by omega), c2 _ (by omega), b1, if_pos hi, a2 _ (by omega), t0 _ (by omega)]
    · rw [g2 _ (by omega), d2 _ (by omega), c1, if_pos hi, b2 _ (by omega), a2 _ (by omega), t0 _ (by omega)]
    · rw [g2 _ (by omega), d1, if_pos hi, c2 _ (by omega), b2 _ (by omega), a2 _ (by omega), t0 _ (by omega)]
  · rw [g1, if_pos hi, d2 _ (by omega), c2 _ (by omega), b2 _ (by omega), a2 _ (by omega), t0 _ (by omega)]
  · rw [g1, if_neg (by omega), d2 _ (by omega), c2 _ (by omega), b2 _ (by omega), a2 _ (by omega), t0 _ (by omega)]
theorem box_s {i : Nat} (hi : i < 3) : (shq (47 + 10 * i)).1 = 1 := by
  rcases (show i = 0 ∨ i = 1 ∨ i = 2 by omega) with w | w | w <;> (rw [w]; rfl)
theorem k152 {x1 : Int32} (h : RC s σ) (ok : OkS s) (K : ∀ σ', CC σ σ' → OkS (stKp s x1) → RC (stKp s x1) σ' → Q (some (.int (qKe s x1))) σ') : Cm Θ (d + 2) 152 [.ref 0, .int x1] σ Q := by
  obtain ⟨r, o, hB, kn⟩ := id h
  obtain ⟨r1, r2, r3, r4⟩ := rB_r hB
  have h16 := bk16 ok
  have hkB := ok.2.1.1
  have hlv : bN s.B ≤ s.lv := by have := hkB.2.1; omega
  have hB' := hB.2.2.1.1
  have hn := hB'.2.2.1.1
  have l0 : x1 < 0 ↔ x1.toInt < 0 := i_lt
  have l3 : x1 < 3 ↔ x1.toInt < 3 := i_lt
  unfold stKp qKe at K
  have bad : ¬ isN x1 3 → Q (some (.int (-1))) σ := fun q => by rw [dP_f q] at K; exact K σ cC_rfl ok h
  refine K152 (B152_0 ?_)
  rw [l0, l3]
  refine ⟨fun z => bad (fun q => by have := q.1; omega), fun z => ⟨fun y => ?_, fun y => bad (fun q => y (by have := q.2; omega))⟩⟩
  have hx : isN x1 3 := ⟨by omega, by omega⟩
  obtain ⟨i, hi, e1⟩ := isN_ex hx (by omega)
  rw [dP_t hx, if_pos rfl, if_pos rfl, e1, nI_clamp (by omega)] at K
  rw [e1, r1, nI_clamp (by omega)]
  have vi := vp_in_nI hi (by decide)
  refine ⟨vi, r2, r3, k19 (d := d) (box_s hi) r3 (by omega) fun s1 f1 y1 y2 y3 _ => ⟨rfl, vi, ?_⟩⟩
  have n1 : vp_nar .boolean 1 = b01 true := by decide
  have e02 : (sI s1 77 i (vp_nar .boolean 1)).2.2 0 2 = r := by rw [sI_R, (f1 0 (by simp; omega)).2.2]; exact r1
  rw [e02]
  have F : Fr [47 + 10 * i, 47 + 10 * i + 3, 47 + 10 * i + 4, 47 + 10 * i + 5, 47 + 10 * i + 6, 47 + 10 * i + 7, 77] σ (sI s1 77 i (vp_nar .boolean 1)) := (f1.mono (by intro x hx; simp at hx; simp; omega)).I (by simp)
  have hl : ∀ x, x ∈ [47 + 10 * i, 47 + 10 * i + 3, 47 + 10 * i + 4, 47 + 10 * i + 5, 47 + 10 * i + 6, 47 + 10 * i + 7, 77] → (47 + 10 * i ≤ x ∧ x ≤ 47 + 10 * i + 7) ∨ x = 77 := fun x hx => by simp at hx; omega
  have e4 : (sI s1 77 i (vp_nar .boolean 1)).1 r 4 = nI (bN s.B) := by rw [(F r (fun q => by have := hl _ q; omega)).1]; exact hn
  rw [e4]
  refine ⟨r2, r3, K _ (cC_fr F fun x hx => by have := hl x hx; omega) (ok_stK ok) ⟨r, o, ?_, Kn_fr kn F (by rw [(F 0 (fun q => by have := hl _ q; omega)).1]; exact ⟨rfl, rfl⟩) (by rw [(F 110 (fun q => by have := hl _ q; omega)).1]; exact ⟨rfl, rfl, rfl⟩) fun x hx => by have := hl x hx; omega⟩⟩
  obtain ⟨h0, h1, ⟨h2, h3⟩, h4, h5, h6, h7⟩ := hB
  have ho : o = 32 ∨ o = 39 := h4.1
  refine ⟨by rw [(F 0 (fun q => by have := hl _ q; omega)).2.2]; exact h0, TC_fr h1 F (fun q => by have := hl _ q; omega) (fun q => by have := hl _ q; omega), ⟨BkC_f2 h2 F fun x x1 x2 q => by have := hl _ q; omega, NwC_fr h3 F fun q => by have := hl _ q; omega⟩, LwS_fr h4 F fun x x1 x2 q => by have := hl _ q; omega, AcC_fr h5 F fun x x1 x2 q => by have := hl _ q; omega, fun j hj => ?_, by rw [(F 113 (fun q => by have := hl _ q; omega)).1]; exact h7⟩
  show (sI s1 77 i (vp_nar .boolean 1)).1 77 j = b01 (if j = i then (true, s.B) else s.x j).1 ∧ ((if j = i then (true, s.B) else s.x j).1 = true → BxC j (if j = i then (true, s.B) else s.x j).2 (sI s1 77 i (vp_nar .boolean 1)))
  by_cases q : j = i
  · rw [if_pos q, q, sI_at, n1]
    refine ⟨rfl, fun _ => ?_⟩
    show BxC i s.B _
    have e : ∀ l, l ≠ 77 → (sI s1 77 i (b01 true)).1 l = s1.1 l := fun l hl' => sI_ne hl'
    obtain ⟨-, ⟨-, -, -, a4⟩, ⟨b1, b2, b3, b4, b5, b6⟩, -⟩ := h2
    refine ⟨⟨by rw [e _ (by omega), y1.1]; exact a4, by rw [e _ (by omega), y1.2.1]; exact b1⟩, ⟨fun c hc => ?_, fun c hc => ?_, fun c hc => ?_, fun c hc => ?_⟩, fun c m hc hm => ?_⟩
    · rw [e _ (by omega), y2 3 (by omega) (by omega) c (by omega)]; exact b2 c (by omega)
    · rw [e _ (by omega), y2 4 (by omega) (by omega) c (by omega)]; exact b3 c (by omega)
    · rw [e _ (by omega), y2 5 (by omega) (by omega) c (by omega)]; exact b4 c (by omega)
    · rw [e _ (by omega), y2 6 (by omega) (by omega) c (by omega)]; exact b5 c (by omega)
    · have hm6 := bm6 hkB
      rw [e _ (by omega), y3 _ (by omega)]; exact b6 c m (by omega) hm
  · rw [if_neg q, sI_of _ _ (by omega), (f1 77 (by simp; omega)).1]
    obtain ⟨g1, g2⟩ := h6 j hj
    refine ⟨g1, fun w => BxC_fr (g2 w) F fun x x1 x2 q' => by have := hl _ q'; omega⟩
theorem k153 {x1 : Int32} (h : RC s σ) (ok : OkS s) (K : ∀ σ', CC σ σ' → OkS (stBk s x1) → RC (stBk s x1) σ' → Q (some (.int (qBa s x1))) σ') : Cm Θ (d + 2) 153 [.ref 0, .int x1] σ Q := by
  obtain ⟨r, o, hB, kn⟩ := id h
  obtain ⟨r1, r2, r3, r4⟩ := rB_r hB
  have hkB := ok.2.1.1
  have hB' := hB.2.2.1.1
  have l0 : x1 < 0 ↔ x1.toInt < 0 := i_lt
  have l3 : (3 : Int32) ≤ x1 ↔ 3 ≤ x1.toInt := i_le
  unfold stBk qBa at K
  have bad : bkB s x1 = false → Q (some (.int (-1))) σ := fun q => by rw [q] at K; exact K σ cC_rfl ok h
  have no : ¬ isN x1 3 → bkB s x1 = false := fun q => by unfold bkB; rw [dP_f q]; rfl
  refine K153 (B153_0 ?_)
  rw [l0, l3]
  refine ⟨fun z => bad (no fun q => by have := q.1; omega), fun z => ⟨fun y => bad (no fun q => by have := q.2; omega), fun y => ?_⟩⟩
  have hx : isN x1 3 := ⟨by omega, by omega⟩
  obtain ⟨i, hi, e1⟩ := isN_ex hx (by omega)
  have eb : bkB s x1 = (s.x i).1 := by unfold bkB; rw [dP_t hx, e1, nI_clamp (by omega)]; rfl
  obtain ⟨g1, g2⟩ := hB.2.2.2.2.2.1 i hi
  have vi := vp_in_nI hi (by decide)
  rw [e1, nI_clamp (by omega), g1, r1]
  refine ⟨vi, fun w => ?_, fun w => bad (by rw [eb]; exact b01_0.mp w)⟩
  rw [b01_n] at w
  have et : bkB s x1 = true := by rw [eb]; exact w
  rw [if_pos et, if_pos et, e1, nI_clamp (by omega)] at K
  obtain ⟨⟨u1, u2⟩, ⟨u3, u4, u5, u6⟩, u7⟩ := g2 w
  have okX := ok_stBk ok hi w
  obtain ⟨m1, m2, m3, m4, m5, m6, m7, m8⟩ := ok.2.2.2.2 i hi w
  have x16 : bN (s.x i).2 ≤ 16 := m7.2.1.2
  have xm6 : bM (s.x i).2 ≤ 6 := m7.1
  generalize (s.x i).2 = X at *
  refine ⟨r2, r3, vi, k19 (d := d) r3 (box_s hi) (by omega) fun s1 f1 y1 y2 y3 y4 => ⟨rfl, K0 (B0_0 ⟨rfl, ?_⟩)⟩⟩
  obtain ⟨τ, hτ⟩ : ∃ τ, τ = sI (sI (sI s1 78 0 0) 78 1 0) 0 17 0 := ⟨_, rfl⟩
  have fτ : Fr [0, 78] s1 τ := by rw [hτ]; exact ((Fr.rfl.I (by simp)).I (by simp)).I (by simp)
  have F : Fr [0, r, r + 3, r + 4, r + 5, r + 6, r + 7, 78] σ τ := (f1.mono (by intro x hx; simp at hx; simp; omega)).tr (fτ.mono (by intro x hx; simp at hx; simp; omega))
  have hl : ∀ x, x ∈ [0, r, r + 3, r + 4, r + 5, r + 6, r + 7, 78] → x = 0 ∨ (r ≤ x ∧ x ≤ r + 7) ∨ x = 78 := fun x hx => by simp at hx; omega
  have e : ∀ l, l ≠ 0 → l ≠ 78 → τ.1 l = s1.1 l := fun l a b => (fτ l (by simp; omega)).1
  have eR : τ.2.2 0 = σ.2.2 0 := by rw [(by rw [hτ]; rfl : τ.2.2 0 = s1.2.2 0), (f1 0 (by simp; omega)).2.2]
  try dsimp only
  rw [← hτ]
  have e02 : τ.2.2 0 2 = r := by rw [eR]; exact r1
  rw [e02]
  have e4 : τ.1 r 4 = nI (bN X) := by rw [e r (by omega) (by omega), y1.2.1]; exact u2
  rw [e4]
  have ee : ∀ x, (x = r + 1 ∨ x = r + 2 ∨ x = r + 8 ∨ x = r + 9) → τ.1 x = σ.1 x ∧ τ.2.1 x = σ.2.1 x := fun x hx => ⟨(F x (by simp; omega)).1, (F x (by simp; omega)).2.1⟩
  refine ⟨r2, r3, K τ (cC_fr F fun x hx => by have := hl x hx; omega) okX ⟨r, o, RB_set hB F eR (fun x hx => by have := hl x hx; omega) ?_ ?_ ⟨⟨?_, ?_⟩, True.intro, True.intro⟩, Kn_0 (by rw [hτ]; exact sI_at _ _ _ _)⟩⟩
  · obtain ⟨b0, ⟨a1, a2, a3, a4⟩, ⟨b1, b2, b3, b4, b5, b6⟩, c1, c2, c3⟩ := hB'
    refine ⟨b0, ⟨by rw [e r (by omega) (by omega), y1.2.2 0 (by decide) (by decide), m1]; exact a1, fun m hm => by rw [(ee (r + 1) (by omega)).2, m2]; exact a2 m (by rw [← m1]; exact hm), fun m hm => by rw [(ee (r + 2) (by omega)).1, m3]; exact a3 m (by rw [← m1]; exact hm), by rw [e r (by omega) (by omega), y1.1]; exact u1⟩, ⟨e4, fun c hc => ?_, fun c hc => ?_, fun c hc => ?_, fun c hc => ?_, fun c m hc hm => ?_⟩, ?_, fun t ht => by rw [(ee (r + 8) (by omega)).1, m5]; exact c2 t (by rw [← m4]; exact ht), fun t ht => by rw [(ee (r + 9) (by omega)).1, m6]; exact c3 t (by rw [← m4]; exact ht)⟩
    · rw [e _ (by omega) (by omega), y2 3 (by omega) (by omega) c (by omega)]; exact u3 c hc
    · rw [e _ (by omega) (by omega), y2 4 (by omega) (by omega) c (by omega)]; exact u4 c hc
    · rw [e _ (by omega) (by omega), y2 5 (by omega) (by omega) c (by omega)]; exact u5 c hc
    · rw [e _ (by omega) (by omega), y2 6 (by omega) (by omega) c (by omega)]; exact u6 c hc
    · rw [e _ (by omega) (by omega), y3 _ (by omega)]; exact u7 c m hc hm
    · rw [e r (by omega) (by omega), y1.2.2 10 (by decide) (by decide), m4]; exact c1
  · intro m hm
    rw [e _ (by omega) (by omega), y4 _ (by omega)]; exact hB.2.2.1.2 m (by rw [← m1]; exact hm)
  · rw [hτ, sI_of _ _ (by omega), sI_of _ _ (by omega), sI_at]; rfl
  · rw [hτ, sI_of _ _ (by omega), sI_at]; rfl
end boxes
