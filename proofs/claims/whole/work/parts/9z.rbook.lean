/-! CONTRACTS: the reference reads a book -/
def lsR : List Nat := [124, 126, 127, 128, 129, 130, 131, 132, 133, 134, 135, 136, 137, 138, 149]
/-- what a refused book leaves in the reference: all but its reading -/
def FrB (σ σ' : Mem) : Prop := Fr lsR σ σ' ∧ (∀ y, 28 ≤ y → σ'.1 124 y = σ.1 124 y) ∧ (∀ y, y ≠ 9 → σ'.2.1 124 y = σ.2.1 124 y) ∧ σ'.1 124 1 = 0
/-- what a book that was read leaves: the cells of the rest -/
def lsW : List Nat := 139 :: 140 :: 141 :: 142 :: 143 :: 144 :: 145 :: 146 :: 147 :: 148 :: 173 :: 177 :: lsR
def NewR (S : Rds) (k : Nat) (σ σ' : Mem) : Prop :=
  Fr lsW σ σ' ∧ (σ'.1 124 1 = 0 ∧ σ'.1 124 2 = 0 ∧ σ'.1 124 3 = -1 ∧ σ'.1 124 70 = 0 ∧ σ'.1 124 78 = 0 ∧ σ'.1 124 79 = 0) ∧ BkR S.c (bkS S) σ' ∧ (∀ m, m < 6 → σ'.1 173 m = 0) ∧ ∀ x, x < 3 → σ'.1 177 x = 0
theorem frB_L {σ σ' : Mem} (h : FrL σ σ') : Fr lsR σ σ' ∧ (∀ y, 28 ≤ y → σ'.1 124 y = σ.1 124 y) ∧ (∀ y, y ≠ 9 → σ'.2.1 124 y = σ.2.1 124 y) ∧ σ'.1 124 1 = σ.1 124 1 :=
  ⟨h.1.mono (by intro x hx; simp [lsN] at hx; simp [lsR]; omega), fun y hy => h.2.1 y (by omega) (by omega) (by omega) (by omega) (by omega), h.2.2.2.2.1, h.2.2.1⟩
section rbk
variable {Θ : Th} {d : Nat} {Q : Po} {b : Nat → Nat} {n : Nat}
/-- the copying of what was read -/
theorem c191c {σ : Mem} {S : Rds} {k : Nat} (hS : RdR S σ) (hk : RdsOk S) (h27 : σ.1 124 27 = nI k) (h0 : σ.1 124 1 = 0 ∧ σ.1 124 2 = 0 ∧ σ.1 124 3 = -1)
    (K : ∀ s, NewR S k σ s → Q (some (.int (nI k))) s) : G Θ (d + 1) 191 116 [some (.ref 124), none, some (.int 0)] [] σ Q := by
  obtain ⟨km, kc, kt⟩ := hk.1
  -- last: boxes
  have p5 : ∀ s, Fr lsW σ s → (s.1 124 1 = 0 ∧ s.1 124 2 = 0 ∧ s.1 124 3 = -1 ∧ s.1 124 70 = 0 ∧ s.1 124 78 = 0 ∧ s.1 124 79 = 0) → s.1 124 40 = nI k → BkR S.c (bkS S) s → (∀ m, m < 6 → s.1 173 m = 0) → G Θ (d + 1) 191 362 [some (.ref 124), none, some (.int 0)] [] s Q := by
    intro s hf h1 h2 h3 h4
    refine loopS (α := Mem) (I := fun i s' => Fr [177] s s' ∧ ∀ x, x < i → s'.1 177 x = 0) (P := fun i s' => G Θ (d + 1) 191 362 [some (.ref 124), none, some (.int (nI i))] [] s' Q) 3 ?_ ?_ s ⟨Fr.rfl, fun x hx => absurd hx (Nat.not_lt_zero x)⟩
    · intro s' ⟨hf', h'⟩
      refine B191_362 ⟨fun _ => ?_, fun z => absurd (nI_le (a := 3) (Nat.le_refl _) (by omega)) z⟩
      have e0 := (hf' 124 (by decide)).1
      rw [e0, h2]
      refine K s' ⟨hf.tr (hf'.mono (by intro x hx; simp at hx; subst hx; decide)), by rw [e0]; exact h1, BkR_fr h3 hf' (by decide), fun m hm => by rw [(hf' 173 (by decide)).1]; exact h4 m hm, h'⟩
    · intro i s' hi ⟨hf', h'⟩ ih
      refine B191_362 ⟨fun z => absurd z (nI_ge (b := 3) hi (by omega)), fun _ => ⟨vp_in_nI hi (by decide), ?_⟩⟩
      rw [nI_clamp (by omega), nb_0, nI_1]
      refine ih _ ⟨hf'.I (by simp), fun x hx => ?_⟩
      by_cases z : x = i
      · rw [z, sI_at]
      · rw [sI_of _ _ (by omega)]; exact h' x (by omega)
  -- told
  have p4 : ∀ s, Fr lsW σ s → s.1 124 = (sI σ 124 70 0).1 124 → RdR S s → (∀ m, m < 6 → s.1 173 m = 0) → ((∀ m, m < S.m → s.2.1 148 m = jJ ((S.mn m : Nat) : Int)) ∧ (∀ m, m < S.m → s.1 139 m = nI (S.mt m)) ∧ ∀ m, m < 6 → s.1 147 m = b01 (bCt (bkS S) m)) → ((∀ c, c < S.c → s.1 141 c = nI (S.cj c) ∧ s.1 142 c = nI (S.cy c) ∧ s.1 143 c = nI (S.cg c) ∧ s.1 144 c = nI (S.cw c)) ∧ ∀ c m, c < S.c → m < 6 → s.1 140 (6 * c + m) = nI (S.cs c m)) → G Θ (d + 1) 191 282 [some (.ref 124), none, some (.int 0)] [] s Q := by
    intro s hf h1 hR h4 h5 h6
    refine loopS (α := Mem) (I := fun i s' => Fr [145, 146] s s' ∧ ∀ x, x < i → s'.1 145 x = s.1 134 x ∧ s'.1 146 x = s.1 135 x) (P := fun i s' => G Θ (d + 1) 191 282 [some (.ref 124), none, some (.int (nI i))] [] s' Q) 20 ?_ ?_ s ⟨Fr.rfl, fun x hx => absurd hx (Nat.not_lt_zero x)⟩
    · intro s' ⟨hf', h'⟩
      refine B191_282 ⟨fun _ => ?_, fun z => absurd (nI_le (a := 20) (Nat.le_refl _) (by omega)) z⟩
      have e0 : ∀ y, s'.1 124 y = (sI σ 124 70 0).1 124 y := fun y => by rw [(hf' 124 (by decide)).1, h1]
      obtain ⟨u1, hu1⟩ : ∃ u, u = sI s' 124 37 (s'.1 124 24) := ⟨_, rfl⟩
      obtain ⟨u2, hu2⟩ : ∃ u, u = sI u1 124 38 (u1.1 124 25) := ⟨_, rfl⟩
      obtain ⟨u3, hu3⟩ : ∃ u, u = sI u2 124 39 (u2.1 124 26) := ⟨_, rfl⟩
      obtain ⟨u4, hu4⟩ : ∃ u, u = sI u3 124 40 (u3.1 124 27) := ⟨_, rfl⟩
      obtain ⟨u5, hu5⟩ : ∃ u, u = sI (sI u4 124 78 0) 124 79 0 := ⟨_, rfl⟩
      rw [← hu1, ← hu2, ← hu3, ← hu4, ← hu5]
      have ox : ∀ x, x ≠ 124 → u5.1 x = s'.1 x := fun x hx => by rw [hu5, sI_ne hx, sI_ne hx, hu4, sI_ne hx, hu3, sI_ne hx, hu2, sI_ne hx, hu1, sI_ne hx]
      have oL : u5.2 = s'.2 := by rw [hu5, hu4, hu3, hu2, hu1]; rfl
      have oy : ∀ y, y ≠ 37 → y ≠ 38 → y ≠ 39 → y ≠ 40 → y ≠ 78 → y ≠ 79 → u5.1 124 y = s'.1 124 y := fun y q1 q2 q3 q4 q5 q6 => by
        rw [hu5, sI_of _ _ (by omega), sI_of _ _ (by omega), hu4, sI_of _ _ (by omega), hu3, sI_of _ _ (by omega), hu2, sI_of _ _ (by omega), hu1, sI_of _ _ (by omega)]
      have f5 : Fr [124] s' u5 := by rw [hu5, hu4, hu3, hu2, hu1]; exact (((((Fr.rfl.I (by simp)).I (by simp)).I (by simp)).I (by simp)).I (by simp)).I (by simp)
      have e37 : u5.1 124 37 = nI S.m := by
        rw [hu5, sI_of _ _ (by omega), sI_of _ _ (by omega), hu4, sI_of _ _ (by omega), hu3, sI_of _ _ (by omega), hu2, sI_of _ _ (by omega), hu1, sI_at, e0, sI_of _ _ (by omega)]; exact hS.1.1
      have e38 : u5.1 124 38 = nI S.c := by
        rw [hu5, sI_of _ _ (by omega), sI_of _ _ (by omega), hu4, sI_of _ _ (by omega), hu3, sI_of _ _ (by omega), hu2, sI_at, hu1, sI_of _ _ (by omega), e0, sI_of _ _ (by omega)]; exact hS.2.1.1
      have e39 : u5.1 124 39 = nI S.t := by
        rw [hu5, sI_of _ _ (by omega), sI_of _ _ (by omega), hu4, sI_of _ _ (by omega), hu3, sI_at, hu2, sI_of _ _ (by omega), hu1, sI_of _ _ (by omega), e0, sI_of _ _ (by omega)]; exact hS.2.2.1
      have e40 : u5.1 124 40 = nI k := by
        rw [hu5, sI_of _ _ (by omega), sI_of _ _ (by omega), hu4, sI_at, hu3, sI_of _ _ (by omega), hu2, sI_of _ _ (by omega), hu1, sI_of _ _ (by omega), e0, sI_of _ _ (by omega)]; exact h27
      have g : ∀ x, x ≠ 124 → x ≠ 145 → x ≠ 146 → u5.1 x = s.1 x ∧ u5.2.1 x = s.2.1 x := fun x q1 q2 q3 => by
        rw [ox x q1, oL]; exact ⟨(hf' x (by simp; omega)).1, (hf' x (by simp; omega)).2.1⟩
      refine p5 u5 ((hf.tr (hf'.mono (by intro x hx; simp at hx; rcases hx with z | z <;> (rw [z]; decide)))).tr (f5.mono (by intro x hx; simp at hx; subst hx; decide))) ⟨?_, ?_, ?_, ?_, ?_, ?_⟩ e40 ⟨⟨e37, fun m hm => ?_, fun m hm => ?_, fun m hm => ?_⟩, ⟨e38, fun c hc => ?_, fun c hc => ?_, fun c hc => ?_, fun c hc => ?_, fun c m hc hm => ?_⟩, e39, fun t ht => ?_, fun t ht => ?_⟩ fun m hm => ?_
      · rw [oy 1 (by omega) (by omega) (by omega) (by omega) (by omega) (by omega), e0, sI_of _ _ (by omega)]; exact h0.1
      · rw [oy 2 (by omega) (by omega) (by omega) (by omega) (by omega) (by omega), e0, sI_of _ _ (by omega)]; exact h0.2.1
      · rw [oy 3 (by omega) (by omega) (by omega) (by omega) (by omega) (by omega), e0, sI_of _ _ (by omega)]; exact h0.2.2
      · rw [oy 70 (by omega) (by omega) (by omega) (by omega) (by omega) (by omega), e0, sI_at]
      · rw [hu5, sI_of _ _ (by omega), sI_at]
      · rw [hu5, sI_at]
      · rw [(g 148 (by omega) (by omega) (by omega)).2]; exact h5.1 m hm
      · rw [(g 139 (by omega) (by omega) (by omega)).1]; exact h5.2.1 m hm
      · rw [(g 147 (by omega) (by omega) (by omega)).1]; exact h5.2.2 m hm
      · rw [(g 141 (by omega) (by omega) (by omega)).1]; exact (h6.1 c hc).1
      · rw [(g 142 (by omega) (by omega) (by omega)).1]; exact (h6.1 c hc).2.1
      · rw [(g 143 (by omega) (by omega) (by omega)).1]; exact (h6.1 c hc).2.2.1
      · rw [(g 144 (by omega) (by omega) (by omega)).1]; exact (h6.1 c hc).2.2.2
      · rw [(g 140 (by omega) (by omega) (by omega)).1]; exact h6.2 c m hc (by have : m < S.m := hm; omega)
      · have ht : t < S.t := ht
        rw [ox 145 (by omega), (h' t (by omega)).1]; exact (hR.2.2.2 t ht).1
      · have ht : t < S.t := ht
        rw [ox 146 (by omega), (h' t (by omega)).2]; exact (hR.2.2.2 t ht).2.1
      · rw [(g 173 (by omega) (by omega) (by omega)).1]; exact h4 m hm
    · intro i s' hi ⟨hf', h'⟩ ih
      have v := vp_in_nI hi (by decide)
      refine B191_282 ⟨fun z => absurd z (nI_ge (b := 20) hi (by omega)), fun _ => ⟨v, v, v, v, ?_⟩⟩
      rw [nI_clamp (by omega), nI_1, sI_ne (show (135 : Nat) ≠ 145 by decide), (hf' 134 (by decide)).1, (hf' 135 (by decide)).1]
      refine ih _ ⟨(hf'.I (by simp)).I (by simp), fun x hx => ?_⟩
      by_cases z : x = i
      · rw [z, sI_at, sI_of _ _ (by omega), sI_at]; exact ⟨rfl, rfl⟩
      · rw [sI_of _ _ (by omega), sI_of _ _ (by omega), sI_of _ _ (by omega), sI_of _ _ (by omega)]; exact h' x (by omega)
  -- cases
  have p3 : ∀ s, Fr lsW σ s → s.1 124 = (sI σ 124 70 0).1 124 → RdR S s → (∀ m, m < 6 → s.1 173 m = 0) → ((∀ m, m < S.m → s.2.1 148 m = jJ ((S.mn m : Nat) : Int)) ∧ (∀ m, m < S.m → s.1 139 m = nI (S.mt m)) ∧ ∀ m, m < 6 → s.1 147 m = b01 (bCt (bkS S) m)) → (∀ x, x < 96 → s.1 140 x = s.1 129 x) → G Θ (d + 1) 191 220 [some (.ref 124), none, some (.int 0)] [] s Q := by
    intro s hf h1 hR h4 h5 h6
    refine loopS (α := Mem) (I := fun i s' => Fr [141, 142, 143, 144] s s' ∧ ∀ x, x < i → s'.1 141 x = s.1 130 x ∧ s'.1 142 x = s.1 131 x ∧ s'.1 143 x = s.1 132 x ∧ s'.1 144 x = s.1 133 x) (P := fun i s' => G Θ (d + 1) 191 220 [some (.ref 124), none, some (.int (nI i))] [] s' Q) 16 ?_ ?_ s ⟨Fr.rfl, fun x hx => absurd hx (Nat.not_lt_zero x)⟩
    · intro s' ⟨hf', h'⟩
      refine B191_220 ⟨fun _ => ?_, fun z => absurd (nI_le (a := 16) (Nat.le_refl _) (by omega)) z⟩
      have g : ∀ x, (x < 141 ∨ 144 < x) → s'.1 x = s.1 x ∧ s'.2.1 x = s.2.1 x := fun x q => ⟨(hf' x (by simp; omega)).1, (hf' x (by simp; omega)).2.1⟩
      refine p4 s' (hf.tr (hf'.mono (by intro x hx; simp at hx; rcases hx with z | z | z | z <;> (rw [z]; decide)))) (by rw [(g 124 (by omega)).1]; exact h1) (RdR_f hR hf' fun x q1 q2 => by simp; omega) (by rw [(g 173 (by omega)).1]; exact h4) (by rw [(g 148 (by omega)).2, (g 139 (by omega)).1, (g 147 (by omega)).1]; exact h5) ⟨fun c hc => ?_, fun c m hc hm => ?_⟩
      · obtain ⟨r1, r2, r3, r4⟩ := h' c (by omega)
        rw [r1, r2, r3, r4]; exact (hR.2.1.2.1 c hc).2
      · rw [(g 140 (by omega)).1, h6 _ (by omega)]; exact hR.2.1.2.2 c m hc hm
    · intro i s' hi ⟨hf', h'⟩ ih
      have v := vp_in_nI hi (by decide)
      refine B191_220 ⟨fun z => absurd z (nI_ge (b := 16) hi (by omega)), fun _ => ⟨v, v, v, v, v, v, v, v, ?_⟩⟩
      rw [nI_clamp (by omega), nI_1]
      obtain ⟨u1, hu1⟩ : ∃ u, u = sI s' 141 i (s'.1 130 i) := ⟨_, rfl⟩
      rw [← hu1]
      obtain ⟨u2, hu2⟩ : ∃ u, u = sI u1 142 i (u1.1 131 i) := ⟨_, rfl⟩
      rw [← hu2]
      obtain ⟨u3, hu3⟩ : ∃ u, u = sI u2 143 i (u2.1 132 i) := ⟨_, rfl⟩
      rw [← hu3]
      have w1 : s'.1 130 i = s.1 130 i := by rw [(hf' 130 (by decide)).1]
      have w2 : u1.1 131 i = s.1 131 i := by rw [hu1, sI_ne (by decide), (hf' 131 (by decide)).1]
      have w3 : u2.1 132 i = s.1 132 i := by rw [hu2, sI_ne (by decide), hu1, sI_ne (by decide), (hf' 132 (by decide)).1]
      have w4 : u3.1 133 i = s.1 133 i := by rw [hu3, sI_ne (by decide), hu2, sI_ne (by decide), hu1, sI_ne (by decide), (hf' 133 (by decide)).1]
      refine ih _ ⟨?_, fun x hx => ?_⟩
      · rw [hu3, hu2, hu1]; exact (((hf'.I (by simp)).I (by simp)).I (by simp)).I (by simp)
      · by_cases z : x = i
        · rw [z, sI_at, sI_of _ _ (by omega), sI_of _ _ (by omega), sI_of _ _ (by omega), hu3, sI_of _ _ (by omega), sI_of _ _ (by omega), sI_at, hu2, sI_of _ _ (by omega), sI_at, hu1, sI_at]
          rw [← hu1, ← hu2, ← hu3]
          exact ⟨w1, w2, w3, w4⟩
        · rw [sI_of _ _ (by omega), sI_of _ _ (by omega), sI_of _ _ (by omega), sI_of _ _ (by omega), hu3, sI_of _ _ (by omega), sI_of _ _ (by omega), sI_of _ _ (by omega), sI_of _ _ (by omega), hu2, sI_of _ _ (by omega), sI_of _ _ (by omega), sI_of _ _ (by omega), sI_of _ _ (by omega), hu1, sI_of _ _ (by omega), sI_of _ _ (by omega), sI_of _ _ (by omega), sI_of _ _ (by omega)]
          exact h' x (by omega)
  -- steps
  have p2 : ∀ s, Fr lsW σ s → s.1 124 = (sI σ 124 70 0).1 124 → RdR S s → (∀ m, m < 6 → s.1 173 m = 0) → ((∀ m, m < S.m → s.2.1 148 m = jJ ((S.mn m : Nat) : Int)) ∧ (∀ m, m < S.m → s.1 139 m = nI (S.mt m)) ∧ ∀ m, m < 6 → s.1 147 m = b01 (bCt (bkS S) m)) → G Θ (d + 1) 191 194 [some (.ref 124), none, some (.int 0)] [] s Q := by
    intro s hf h1 hR h4 h5
    refine loopS (α := Mem) (I := fun i s' => Fr [140] s s' ∧ ∀ x, x < i → s'.1 140 x = s.1 129 x) (P := fun i s' => G Θ (d + 1) 191 194 [some (.ref 124), none, some (.int (nI i))] [] s' Q) 96 ?_ ?_ s ⟨Fr.rfl, fun x hx => absurd hx (Nat.not_lt_zero x)⟩
    · intro s' ⟨hf', h'⟩
      refine B191_194 ⟨fun _ => ?_, fun z => absurd (nI_le (a := 96) (Nat.le_refl _) (by omega)) z⟩
      have g : ∀ x, x ≠ 140 → s'.1 x = s.1 x ∧ s'.2.1 x = s.2.1 x := fun x q => ⟨(hf' x (by simp; omega)).1, (hf' x (by simp; omega)).2.1⟩
      refine p3 s' (hf.tr (hf'.mono (by intro x hx; simp at hx; subst hx; decide))) (by rw [(g 124 (by omega)).1]; exact h1) (RdR_f hR hf' fun x q1 q2 => by simp; omega) (by rw [(g 173 (by omega)).1]; exact h4) (by rw [(g 148 (by omega)).2, (g 139 (by omega)).1, (g 147 (by omega)).1]; exact h5) fun x hx => by rw [(g 129 (by omega)).1]; exact h' x hx
    · intro i s' hi ⟨hf', h'⟩ ih
      have v := vp_in_nI hi (by decide)
      refine B191_194 ⟨fun z => absurd z (nI_ge (b := 96) hi (by omega)), fun _ => ⟨v, v, ?_⟩⟩
      rw [nI_clamp (by omega), nI_1, (hf' 129 (by decide)).1]
      refine ih _ ⟨hf'.I (by simp), fun x hx => ?_⟩
      by_cases z : x = i
      · rw [z, sI_at]
      · rw [sI_of _ _ (by omega)]; exact h' x (by omega)
  -- marks
  refine loopS (α := Mem) (I := fun i s' => Fr [139, 147, 148, 173] σ s' ∧ ∀ x, x < i → s'.1 139 x = σ.1 128 x ∧ s'.1 147 x = b01 (bCt (bkS S) x) ∧ s'.1 173 x = 0 ∧ s'.2.1 148 x = σ.2.1 126 x) (P := fun i s' => G Θ (d + 1) 191 116 [some (.ref 124), none, some (.int (nI i))] [] s' Q) 6 ?_ ?_ σ ⟨Fr.rfl, fun x hx => absurd hx (Nat.not_lt_zero x)⟩
  · intro s' ⟨hf', h'⟩
    refine B191_116 ⟨fun _ => ?_, fun z => absurd (nI_le (a := 6) (Nat.le_refl _) (by omega)) z⟩
    have ox : ∀ x, x ≠ 124 → (sI s' 124 70 0).1 x = s'.1 x := fun x q => sI_ne q
    have hR : RdR S (sI s' 124 70 0) := by
      obtain ⟨⟨a1, a2⟩, ⟨b1, b2, b3⟩, c1, c2⟩ := RdR_f hS hf' fun x q1 q2 => by simp; omega
      refine ⟨⟨by rw [sI_of _ _ (by omega)]; exact a1, ?_⟩, ⟨by rw [sI_of _ _ (by omega)]; exact b1, ?_, ?_⟩, by rw [sI_of _ _ (by omega)]; exact c1, ?_⟩
      · rw [ox 128 (by omega), ox 137 (by omega)]; exact a2
      · rw [ox 130 (by omega), ox 131 (by omega), ox 132 (by omega), ox 133 (by omega)]; exact b2
      · rw [ox 129 (by omega)]; exact b3
      · rw [ox 134 (by omega), ox 135 (by omega), ox 136 (by omega)]; exact c2
    refine p2 _ ((hf'.mono (by intro x hx; simp at hx; rcases hx with z | z | z | z <;> (rw [z]; decide))).I (by decide)) ?_ hR (by rw [ox 173 (by omega)]; exact fun m hm => (h' m hm).2.2.1) ⟨fun m hm => ?_, fun m hm => ?_, ?_⟩
    · funext y
      by_cases z : y = 70
      · rw [z, sI_at, sI_at]
      · rw [sI_of _ _ (by omega), sI_of _ _ (by omega), (hf' 124 (by decide)).1]
    · rw [sI_L, (h' m (by omega)).2.2.2]; exact (hS.1.2 m hm).1
    · rw [ox 139 (by omega), (h' m (by omega)).1]; exact (hS.1.2 m hm).2.1
    · rw [ox 147 (by omega)]; exact fun m hm => (h' m hm).2.1
  · intro i s' hi ⟨hf', h'⟩ ih
    have v := vp_in_nI hi (by decide)
    have e24 : (sI s' 139 i (s'.1 128 i)).1 124 24 = nI S.m := by rw [sI_of _ _ (by omega), (hf' 124 (by decide)).1]; exact hS.1.1
    have step : ∀ x : Int32, x = b01 (bCt (bkS S) i) → G Θ (d + 1) 191 116 [some (.ref 124), none, some (.int (nI (i + 1)))] [] (sL (sI (sI (sI s' 139 i (s'.1 128 i)) 147 i x) 173 i 0) 148 i ((sI (sI (sI s' 139 i (s'.1 128 i)) 147 i x) 173 i 0).2.1 126 i)) Q := fun x hx => by
      refine ih _ ⟨(((hf'.I (by simp)).I (by simp)).I (by simp)).L (by simp), fun y hy => ?_⟩
      rw [sI_L, sI_L, sI_L, sL_I]
      by_cases z : y = i
      · rw [z, sL_at, sI_at, sI_of _ _ (by omega), sI_of _ _ (by omega), sI_at, sI_of _ _ (by omega), sI_at, (hf' 128 (by decide)).1, (hf' 126 (by decide)).2.1]
        exact ⟨rfl, hx, rfl, rfl⟩
      · rw [sL_of _ _ (by omega), sI_of _ _ (by omega), sI_of _ _ (by omega), sI_of _ _ (by omega), sI_of _ _ (by omega), sI_of _ _ (by omega), sI_of _ _ (by omega), sI_of _ _ (by omega), sI_of _ _ (by omega), sI_of _ _ (by omega)]
        exact h' y (by omega)
    refine B191_116 ⟨fun z => absurd z (nI_ge (b := 6) hi (by omega)), fun _ => ?_⟩
    rw [nI_clamp (by omega), e24, nb_0, nb_1, nI_1, nI_leI (by omega) (by omega)]
    refine ⟨v, v, fun z => ⟨v, v, v, v, step 0 ?_⟩, fun z => ⟨v, ?_⟩⟩
    · show (0 : Int32) = b01 (decide (i < S.m) && !S.mv i)
      rw [decide_eq_false (by omega)]; rfl
    · have e137 : (sI s' 139 i (s'.1 128 i)).1 137 i = b01 (S.mv i) := by rw [sI_of _ _ (by omega), (hf' 137 (by decide)).1]; exact (hS.1.2 i (by omega)).2.2
      rw [e137]
      refine ⟨fun y => ⟨v, v, v, v, step 0 ?_⟩, fun y => ⟨v, v, v, v, step 1 ?_⟩⟩
      · rw [b01_n] at y
        show (0 : Int32) = b01 (decide (i < S.m) && !S.mv i)
        rw [y]; simp; rfl
      · rw [b01_0] at y
        show (1 : Int32) = b01 (decide (i < S.m) && !S.mv i)
        rw [y, decide_eq_true (by omega)]; rfl
end rbk
