/-! CONTRACTS: the reference's laws() -/
/-- laws as the reference keeps them -/
def LwF (S : Lw) (σ : Mem) : Prop := σ.1 124 70 = nI S.k ∧ (∀ i, i < S.P.length → σ.1 166 i = nI (rcd (pfL S.P i).1) ∧ ((pfL S.P i).1 ≤ 1 → σ.1 167 i = nI (pfL S.P i).2)) ∧ ∀ i, i < S.k → (σ.1 168 i = nI (S.bg i) ∧ σ.1 168 (i + 1) = nI (S.st i)) ∧ σ.1 169 i = nI (S.lo i) ∧ σ.1 170 i = nI (S.hi i)
theorem pfL_c {x : Nat × Nat} {t : List (Nat × Nat)} : pfL (x :: t) t.length = x := by
  have := pfL_hi (q := [x]) (P := t) (j := 0)
  exact this
theorem rwR_at {σ : Mem} : ∀ {P : List (Nat × Nat)}, rwR P σ → ∀ i, i < P.length → σ.1 161 i = nI (rcd (pfL P i).1) ∧ ((pfL P i).1 ≤ 1 → σ.1 162 i = nI (pfL P i).2)
  | [], _, i, hi => absurd hi (Nat.not_lt_zero i)
  | x :: t, h, i, hi => by
    have hi : i < t.length + 1 := hi
    by_cases z : i = t.length
    · rw [z, pfL_c]; exact h.1
    · have : pfL (x :: t) i = pfL t i := pfL_lo (q := [x]) (by omega)
      rw [this]; exact rwR_at h.2 i (by omega)
theorem rwC_at {o : Nat} {σ : Mem} : ∀ {P : List (Nat × Nat)}, rwC o P σ → ∀ i, i < P.length → σ.1 (o + 4) i = nI (pfL P i).1 ∧ σ.1 (o + 5) i = nI (pfL P i).2
  | [], _, i, hi => absurd hi (Nat.not_lt_zero i)
  | x :: t, h, i, hi => by
    have hi : i < t.length + 1 := hi
    by_cases z : i = t.length
    · rw [z, pfL_c]; exact h.1
    · have : pfL (x :: t) i = pfL t i := pfL_lo (q := [x]) (by omega)
      rw [this]; exact rwC_at h.2 i (by omega)
def lsT : List Nat := 166 :: 167 :: 168 :: 169 :: 170 :: lsS
/-- what reading laws leaves: all but its own cells -/
def FrU (σ s : Mem) : Prop := Fr lsT σ s ∧ (∀ y, 11 ≤ y → y ≠ 68 → y ≠ 69 → y ≠ 70 → y ≠ 71 → y ≠ 72 → y ≠ 73 → s.1 124 y = σ.1 124 y) ∧ (∀ y, y ≠ 9 → s.2.1 124 y = σ.2.1 124 y) ∧ s.1 124 1 = 0
section rl5
variable {Θ : Th} {d : Nat} {Q : Po} {b : Nat → Nat} {n : Nat} {law : Bool} {mk : Nat} {nm : Nat → Nat}
theorem c263c {σ : Mem} {S : Lw} (hk : LwOk mk S) (hS : LwR S σ)
    (K : ∀ s, Fr [124, 166, 167, 168, 169, 170] σ s → (∀ y, y ≠ 70 → s.1 124 y = σ.1 124 y) → s.2 = σ.2 → LwF S s → Q (some (.int (nI S.k))) s) : G Θ (d + 1) 263 97 [some (.ref 124), some (.int 0)] [] σ Q := by
  obtain ⟨⟨k1, k2, k3, k4⟩, -, hln⟩ := hk
  obtain ⟨⟨h68, h69, h71⟩, hP, hrow⟩ := hS
  have hat := rwR_at hP
  -- the lines
  have p2 : ∀ s, Fr [166, 167] σ s → s.2 = σ.2 → (∀ i, i < S.P.length → s.1 166 i = σ.1 161 i ∧ s.1 167 i = σ.1 162 i) → G Θ (d + 1) 263 137 [some (.ref 124), some (.int 0)] [] s Q := by
    intro s hf h2 hs
    have row : ∀ i, i < S.k → (s.1 163 i = nI (S.bg i) ∧ s.1 163 (i + 1) = nI (S.st i)) ∧ s.1 164 i = nI (S.lo i) ∧ s.1 165 i = nI (S.hi i) := fun i hi => by
      rw [(hf 163 (by decide)).1, (hf 164 (by decide)).1, (hf 165 (by decide)).1]; exact hrow i hi
    refine loopS (α := Mem) (I := fun i s' => Fr [168, 169, 170] s s' ∧ s'.2 = s.2 ∧ ∀ x, x < i → (s'.1 168 x = nI (S.bg x) ∧ s'.1 168 (x + 1) = nI (S.st x)) ∧ s'.1 169 x = nI (S.lo x) ∧ s'.1 170 x = nI (S.hi x)) (P := fun i s' => G Θ (d + 1) 263 137 [some (.ref 124), some (.int (nI i))] [] s' Q) S.k ?_ ?_ s ⟨Fr.rfl, rfl, fun x hx => absurd hx (Nat.not_lt_zero x)⟩
    · intro s' ⟨hf', h2', h'⟩
      have e69 : s'.1 124 69 = nI S.k := by rw [(hf' 124 (by decide)).1, (hf 124 (by decide)).1]; exact h69
      refine B263_137 ⟨fun _ => ?_, fun z => absurd (by rw [e69]; exact nI_le (Nat.le_refl _) (by omega)) z⟩
      rw [e69, sI_at]
      refine K _ ?_ (fun y hy => ?_) ?_ ⟨sI_at _ _ _ _, fun i hi => ?_, fun i hi => ?_⟩
      · exact ((hf.mono (by intro x hx; simp at hx; rcases hx with z | z <;> (rw [z]; decide))).tr (hf'.mono (by intro x hx; simp at hx; rcases hx with z | z | z <;> (rw [z]; decide)))).I (by decide)
      · rw [sI_of _ _ (by omega), (hf' 124 (by decide)).1, (hf 124 (by decide)).1]
      · show s'.2 = σ.2
        rw [h2', h2]
      · rw [sI_of _ _ (by omega), sI_of _ _ (by omega), (hf' 166 (by decide)).1, (hf' 167 (by decide)).1, (hs i hi).1, (hs i hi).2]
        exact hat i hi
      · rw [sI_of _ _ (by omega), sI_of _ _ (by omega), sI_of _ _ (by omega), sI_of _ _ (by omega)]; exact h' i hi
    · intro i s' hi ⟨hf', h2', h'⟩ ih
      have e69 : s'.1 124 69 = nI S.k := by rw [(hf' 124 (by decide)).1, (hf 124 (by decide)).1]; exact h69
      have v9 := vp_in_nI (show i < 9 by omega) (show 9 < 2 ^ 31 by decide)
      have v9' := vp_in_nI (show i + 1 < 9 by omega) (show 9 < 2 ^ 31 by decide)
      have v8 := vp_in_nI (show i < 8 by omega) (show 8 < 2 ^ 31 by decide)
      refine B263_137 ⟨fun z => absurd z (by rw [e69]; exact nI_ge hi (by omega)), fun _ => ?_⟩
      rw [nI_1, nI_clamp (by omega), nI_clamp (by omega)]
      refine ⟨v9, v9, v9', v9', v8, v8, v8, v8, ?_⟩
      obtain ⟨⟨r1, r2⟩, r3, r4⟩ := row i hi
      have a1 : s'.1 163 i = nI (S.bg i) := by rw [(hf' 163 (by decide)).1]; exact r1
      have a2 : s'.1 163 (i + 1) = nI (S.st i) := by rw [(hf' 163 (by decide)).1]; exact r2
      have a3 : s'.1 164 i = nI (S.lo i) := by rw [(hf' 164 (by decide)).1]; exact r3
      have a4 : s'.1 165 i = nI (S.hi i) := by rw [(hf' 165 (by decide)).1]; exact r4
      have b2 : ∀ v, (sI s' 168 i v).1 163 (i + 1) = nI (S.st i) := fun v => by rw [sI_of _ _ (by omega)]; exact a2
      have b3 : ∀ v w, (sI (sI s' 168 i v) 168 (i + 1) w).1 164 i = nI (S.lo i) := fun v w => by rw [sI_of _ _ (by omega), sI_of _ _ (by omega)]; exact a3
      have b4 : ∀ v w x, (sI (sI (sI s' 168 i v) 168 (i + 1) w) 169 i x).1 165 i = nI (S.hi i) := fun v w x => by rw [sI_of _ _ (by omega), sI_of _ _ (by omega), sI_of _ _ (by omega)]; exact a4
      rw [a1, b2, b3, b4]
      refine ih _ ⟨(((hf'.I (by simp)).I (by simp)).I (by simp)).I (by simp), h2', fun x hx => ?_⟩
      rw [sI_of _ _ (by omega), sI_of _ _ (by omega), sI_of _ _ (show ¬ (168 = 170 ∧ x + 1 = i) by omega), sI_of _ _ (show ¬ (168 = 169 ∧ x + 1 = i) by omega)]
      by_cases z : x = i
      · rw [z, sI_of _ _ (by omega), sI_at, sI_at, sI_of _ _ (show ¬ (169 = 170 ∧ i = i) by omega), sI_at, sI_at]
        exact ⟨⟨rfl, rfl⟩, rfl, rfl⟩
      · have y : x < i := by omega
        obtain ⟨⟨q1, q2⟩, q3, q4⟩ := h' x y
        rw [sI_of _ _ (show ¬ (168 = 168 ∧ x = i + 1) by omega), sI_of _ _ (show ¬ (168 = 168 ∧ x = i) by omega), sI_of _ _ (show ¬ (168 = 168 ∧ x + 1 = i + 1) by omega)]
        refine ⟨⟨q1, ?_⟩, ?_, ?_⟩
        · by_cases y2 : x + 1 = i
          · rw [y2, sI_at, ← y2]; rfl
          · rw [sI_of _ _ (by omega)]; exact q2
        · rw [sI_of _ _ (by omega), sI_of _ _ (by omega), sI_of _ _ (by omega), sI_of _ _ (by omega)]; exact q3
        · rw [sI_of _ _ (by omega), sI_of _ _ (by omega), sI_of _ _ (by omega), sI_of _ _ (by omega)]; exact q4
  -- the signs
  refine loopS (α := Mem) (I := fun i s => Fr [166, 167] σ s ∧ s.2 = σ.2 ∧ ∀ x, x < i → s.1 166 x = σ.1 161 x ∧ s.1 167 x = σ.1 162 x) (P := fun i s => G Θ (d + 1) 263 97 [some (.ref 124), some (.int (nI i))] [] s Q) S.P.length ?_ ?_ σ ⟨Fr.rfl, rfl, fun x hx => absurd hx (Nat.not_lt_zero x)⟩
  · intro s ⟨hf, h2, h'⟩
    have e68 : s.1 124 68 = nI S.P.length := by rw [(hf 124 (by decide)).1]; exact h68
    exact B263_97 ⟨fun _ => p2 s hf h2 h', fun z => absurd (by rw [e68]; exact nI_le (Nat.le_refl _) (by omega)) z⟩
  · intro i s hi ⟨hf, h2, h'⟩ ih
    have e68 : s.1 124 68 = nI S.P.length := by rw [(hf 124 (by decide)).1]; exact h68
    have v := vp_in_nI (show i < 600 by omega) (show 600 < 2 ^ 31 by decide)
    refine B263_97 ⟨fun z => absurd z (by rw [e68]; exact nI_ge hi (by omega)), fun _ => ⟨v, v, v, v, ?_⟩⟩
    rw [nI_clamp (by omega), nI_1, sI_ne (show (162 : Nat) ≠ 166 by decide), (hf 161 (by decide)).1, (hf 162 (by decide)).1]
    refine ih _ ⟨(hf.I (by simp)).I (by simp), h2, fun x hx => ?_⟩
    by_cases z : x = i
    · rw [z, sI_at, sI_of _ _ (by omega), sI_at]; exact ⟨rfl, rfl⟩
    · rw [sI_of _ _ (by omega), sI_of _ _ (by omega), sI_of _ _ (by omega), sI_of _ _ (by omega)]; exact h' x (by omega)
theorem c263g (hn : n ≤ 500) (hb : ∀ i, b i < 256) (hm : mk ≤ 6) : ∀ (f i : Nat) (S : Lw) (j : Nat) (σ : Mem), i + f = 502 → i ≤ 500 → i ≤ j → TkR b n law j σ → LwR S σ → LwOk mk S → S.P.length ≤ j → MkR mk nm σ →
    (∀ x s, rLs (tok b n law) mk nm f S j = .error x → FrS σ s → FaR x s → Q (some (.int (-1))) s) →
    (∀ S' s, rLs (tok b n law) mk nm f S j = .ok S' → LwOk mk S' → FrS σ s → LwR S' s → s.1 124 2 = 0 ∧ s.1 124 3 = -1 → G Θ (d + 4 + 1) 263 97 [some (.ref 124), some (.int 0)] [] s Q) → G Θ (d + 4 + 1) 263 65 [some (.ref 124), none] [] σ Q
  | 0, i, S, j, σ, hi, hi', hij, h, hS, hk, hl, hM, KE, KO => by omega
  | f + 1, i, S, j, σ, hi, hi', hij, h, hS, hk, hl, hM, KE, KO => by
    have hn13 : n ≤ 1300 := by omega
    have l : nI (srt (tok b n law j)) = 0 ↔ (tok b n law j).1 = 0 := l_srt hn13 hb j 0 (by omega)
    refine B263_65 ⟨fun z => absurd (TkR_0 h).2 z, fun _ => ?_⟩
    rw [(TkR_st h).1, l]
    refine ⟨fun hz => ⟨fun _ => KO S σ (if_pos hz) hk frS_rfl hS h.2.1, fun z => absurd (TkR_0 h).1 z⟩, fun hz => ?_⟩
    have hj := tok_lt hn13 hz
    have eB : rLs (tok b n law) mk nm (f + 1) S j = andT (rLl (tok b n law) mk nm S j) fun a => rLs (tok b n law) mk nm f a.1 a.2 := if_neg hz
    refine c262 (d := d) hn hb hm h hS hk hl hM (fun e s he fr t => ⟨rfl, B263_65 ⟨fun _ => ⟨fun z => absurd z (FaR_n t).1, fun _ => KE e s (by rw [eB, andT_er he]) fr t⟩, fun z => absurd z (FaR_n t).2⟩⟩) fun S' j' s he hj hl' hk' fr t hS' => ⟨rfl, ?_⟩
    have eR : rLs (tok b n law) mk nm (f + 1) S j = rLs (tok b n law) mk nm f S' j' := by rw [eB, andT_ok he]
    exact c263g hn hb hm f (i + 1) S' j' s (by omega) (by omega) (by omega) t hS' hk' hl' (MkR_S hM fr) (fun x s' he' f' t' => KE x s' (by rw [eR]; exact he') (frS_tr fr f') t') fun S'' s' he' hk'' f' hS'' h23 => KO S'' s' (by rw [eR]; exact he') hk'' (frS_tr fr f') hS'' h23
theorem c263n {σ : Mem} (h1 : σ.1 124 1 = nI n) (hn : 500 < n) (hn' : n ≤ 1300) (K : Q (some (.int (-2))) σ) : Cm Θ (d + 1) 263 [.ref 124] σ Q :=
  K263 (B263_0 (by rw [h1]; exact ⟨fun z => absurd z (nI_ge (b := n) (a := 500) hn (by omega)), fun _ => K⟩))
theorem c263 {σ : Mem} (hn : n ≤ 500) (hb : ∀ i, b i < 256) (hm : mk ≤ 6) (h1 : σ.1 124 1 = nI n) (h2 : ∀ i, i < n → σ.1 125 i = nI (b i)) (hM : MkR mk nm σ)
    (KE : ∀ e s, rLs (tok b n true) mk nm 502 emL 0 = .error e → FrU σ s → s.1 124 70 = σ.1 124 70 → s.1 166 = σ.1 166 → s.1 167 = σ.1 167 → s.1 168 = σ.1 168 → s.1 169 = σ.1 169 → s.1 170 = σ.1 170 → FaR e s → Q (some (.int (-1))) s)
    (KO : ∀ S s, rLs (tok b n true) mk nm 502 emL 0 = .ok S → LwOk mk S → FrU σ s → s.1 124 2 = 0 ∧ s.1 124 3 = -1 → LwF S s → Q (some (.int (nI S.k))) s) : Cm Θ (d + 5) 263 [.ref 124] σ Q := by
  have hn13 : n ≤ 1300 := by omega
  refine K263 (B263_0 ?_)
  rw [h1]
  refine ⟨fun _ => ?_, fun z => absurd (nI_le (b := 500) hn (by omega)) z⟩
  rw [show (sI σ 124 10 1).1 124 1 = nI n by rw [sI_of _ _ (by omega)]; exact h1]
  obtain ⟨s0, hs0⟩ : ∃ s0, s0 = sI (sI (sI (sI (sI (sI (sI (sI (sI σ 124 10 1) 124 5 (nI n)) 124 1 0) 124 4 0) 124 2 0) 124 3 (-1)) 124 68 0) 124 69 0) 124 71 0 := ⟨_, rfl⟩
  rw [← hs0]
  have f0 : Fr [124] σ s0 := by
    rw [hs0]; exact ((((((((Fr.rfl.I (by simp)).I (by simp)).I (by simp)).I (by simp)).I (by simp)).I (by simp)).I (by simp)).I (by simp)).I (by simp)
  have oy : ∀ y, 11 ≤ y → y ≠ 68 → y ≠ 69 → y ≠ 71 → s0.1 124 y = σ.1 124 y := fun y q1 q2 q3 q4 => by
    rw [hs0, sI_of _ _ (by omega), sI_of _ _ (by omega), sI_of _ _ (by omega), sI_of _ _ (by omega), sI_of _ _ (by omega), sI_of _ _ (by omega), sI_of _ _ (by omega), sI_of _ _ (by omega), sI_of _ _ (by omega)]
  have oL : s0.2 = σ.2 := by rw [hs0]; rfl
  have v71 : s0.1 124 71 = 0 := by rw [hs0, sI_at]
  have v69 : s0.1 124 69 = 0 := by rw [hs0, sI_of _ _ (by omega), sI_at]
  have v68 : s0.1 124 68 = 0 := by rw [hs0, sI_of _ _ (by omega), sI_of _ _ (by omega), sI_at]
  have v3 : s0.1 124 3 = -1 := by rw [hs0, sI_of _ _ (by omega), sI_of _ _ (by omega), sI_of _ _ (by omega), sI_at]
  have v2 : s0.1 124 2 = 0 := by rw [hs0, sI_of _ _ (by omega), sI_of _ _ (by omega), sI_of _ _ (by omega), sI_of _ _ (by omega), sI_at]
  have v4 : s0.1 124 4 = 0 := by rw [hs0, sI_of _ _ (by omega), sI_of _ _ (by omega), sI_of _ _ (by omega), sI_of _ _ (by omega), sI_of _ _ (by omega), sI_at]
  have v1 : s0.1 124 1 = 0 := by rw [hs0, sI_of _ _ (by omega), sI_of _ _ (by omega), sI_of _ _ (by omega), sI_of _ _ (by omega), sI_of _ _ (by omega), sI_of _ _ (by omega), sI_at]
  have v5 : s0.1 124 5 = nI n := by rw [hs0, sI_of _ _ (by omega), sI_of _ _ (by omega), sI_of _ _ (by omega), sI_of _ _ (by omega), sI_of _ _ (by omega), sI_of _ _ (by omega), sI_of _ _ (by omega), sI_at]
  have v10 : s0.1 124 10 = 1 := by rw [hs0, sI_of _ _ (by omega), sI_of _ _ (by omega), sI_of _ _ (by omega), sI_of _ _ (by omega), sI_of _ _ (by omega), sI_of _ _ (by omega), sI_of _ _ (by omega), sI_of _ _ (by omega), sI_at]
  have hT : TpR b n true s0 := ⟨v5, fun i hi => by rw [(f0 125 (by decide)).1]; exact h2 i hi, v10⟩
  refine c175 (d := d + 3) (i := 0) hn13 hb hT (Nat.zero_le _) v4 fun s1 f1 t1 => ⟨rfl, ?_⟩
  have g1 := frT_K f1
  have gI : ∀ y, 9 ≤ y → s1.1 124 y = s0.1 124 y := g1.2.1
  have tk : TkR b n true 0 s1 := ⟨TpR_fr hT f1, ⟨by rw [f1.2.1 2 (by decide) (by decide) (by decide) (by decide)]; exact v2, by rw [f1.2.1 3 (by decide) (by decide) (by decide) (by decide)]; exact v3⟩, t1⟩
  have hR : LwR emL s1 := ⟨⟨by rw [gI 68 (by omega), v68]; rfl, by rw [gI 69 (by omega), v69]; rfl, by rw [gI 71 (by omega), v71]; rfl⟩, True.intro, fun i hi => absurd hi (Nat.not_lt_zero i)⟩
  have w1 : s1.1 124 1 = 0 := by rw [g1.2.2.1]; exact v1
  have hM1 : MkR mk nm s1 := by
    obtain ⟨m1, m2, m3, m4⟩ := hM
    refine ⟨by rw [gI 37 (by omega), oy 37 (by omega) (by omega) (by omega) (by omega)]; exact m1, m2, ?_, m4⟩
    rw [(g1.1 148 (by decide)).2.1, oL]; exact m3
  have fA : ∀ {s : Mem}, FrS s1 s → FrU σ s ∧ (s.1 124 70 = σ.1 124 70 ∧ s.1 166 = σ.1 166 ∧ s.1 167 = σ.1 167 ∧ s.1 168 = σ.1 168 ∧ s.1 169 = σ.1 169 ∧ s.1 170 = σ.1 170) := fun {s} g => by
    have e : ∀ x, 166 ≤ x → x ≤ 170 → s.1 x = σ.1 x := fun x h1 h2 => by rw [(g.1 x (by simp [lsS]; omega)).1, (g1.1 x (by simp; omega)).1, (f0 x (by simp; omega)).1]
    refine ⟨⟨(f0.mono (by intro x hx; simp at hx; subst hx; decide)).tr ((g1.1.mono (by intro x hx; simp at hx; subst hx; decide)).tr (g.1.mono (by intro x hx; simp [lsS] at hx; simp [lsT, lsS]; omega))), fun y y1 y2 y3 y4 y5 y6 y7 => ?_, fun y hy => ?_, g.2.2.1.trans w1⟩, ?_, e 166 (by omega) (by omega), e 167 (by omega) (by omega), e 168 (by omega) (by omega), e 169 (by omega) (by omega), e 170 (by omega) (by omega)⟩
    · rw [g.2.1 y (by omega) (by omega) (by omega) (by omega) (by omega) (by omega), gI y (by omega)]; exact oy y y1 y2 y3 y5
    · rw [g.2.2.2 y hy, g1.2.2.2.2.1 y hy, oL]
    · rw [g.2.1 70 (by omega) (by omega) (by omega) (by omega) (by omega) (by omega), gI 70 (by omega)]; exact oy 70 (by omega) (by omega) (by omega) (by omega)
  refine c263g (d := d) hn hb hm 502 0 emL 0 s1 rfl (by omega) (Nat.le_refl _) tk hR (ok_emL mk) (Nat.zero_le _) hM1 (fun e s he f t => ?_) fun S s he hk f hS h23 => ?_
  · obtain ⟨g, x1, x2, x3, x4, x5, x6⟩ := fA f
    exact KE e s he g x1 x2 x3 x4 x5 x6 t
  · obtain ⟨g, -⟩ := fA f
    refine c263c (d := d + 4) hk hS fun s' f' h70 h2' hF => KO S s' he hk ⟨g.1.tr (f'.mono (by intro x hx; simp at hx; simp [lsT, lsS]; omega)), fun y y1 y2 y3 y4 y5 y6 y7 => ?_, fun y hy => ?_, ?_⟩ ⟨?_, ?_⟩ hF
    · rw [h70 y y4]; exact g.2.1 y y1 y2 y3 y4 y5 y6 y7
    · rw [h2']; exact g.2.2.1 y hy
    · rw [h70 1 (by decide)]; exact g.2.2.2
    · rw [h70 2 (by decide)]; exact h23.1
    · rw [h70 3 (by decide)]; exact h23.2
end rl5
