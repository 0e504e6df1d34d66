/-! CONTRACTS: the reference's book(): its whole reading -/
theorem tok_T {b : Nat → Nat} {n : Nat} {law : Bool} (hn : n ≤ 1300) : ∃ T, T ≤ n ∧ (tok b n law T).1 = 0 := by
  refine Classical.byContradiction fun h => ?_
  have h' : ∀ s, s < n + 1 → (tok b n law s).1 ≠ 0 := fun s hs q => h ⟨s, by omega, q⟩
  have h1 := pos_gt (law := law) (b := b) hn (n + 1) h'
  have h2 := pos_le (law := law) (b := b) hn (n + 1)
  omega
theorem tok_lt {b : Nat → Nat} {n : Nat} {law : Bool} (hn : n ≤ 1300) {j : Nat} (h : (tok b n law j).1 ≠ 0) : j < n := by
  obtain ⟨T, h1, h2⟩ := tok_T (law := law) (b := b) hn
  rcases Nat.lt_or_ge j T with q | q
  · omega
  · have := tok_ends hn h2 (j - T)
    rw [show T + (j - T) = j by omega] at this
    rw [this] at h; exact absurd h2 h
section rb2
variable {Θ : Th} {d : Nat} {Q : Po} {b : Nat → Nat} {n : Nat}
/-- the fault and the place that an answer shows -/
theorem c191e {σ : Mem} {S : Rds} {k : Nat} (hS : RdR S σ) (hk : RdsOk S) (h27 : σ.1 124 27 = nI k) (h0 : σ.1 124 1 = 0 ∧ σ.1 124 2 = 0 ∧ σ.1 124 3 = -1)
    (KE : ∀ s, 0 ≤ agT (bkS S) → FrB σ s → FaR (6, S.tp (agT (bkS S)).toNat) s → Q (some (.int (-1))) s)
    (KO : ∀ s s1, ¬ 0 ≤ agT (bkS S) → Fr [149] σ s1 → NewR S k s1 s → Q (some (.int (nI k))) s) : G Θ (d + 1 + 1) 191 78 [some (.ref 124), none, none] [] σ Q := by
  refine B191_78 ⟨fun _ => ?_, fun z => absurd (by rw [h0.2.1]; decide) z⟩
  refine c194 (d := d) hS hk fun s1 f1 => ⟨_, rfl, ?_⟩
  have hb := fsT_b (f := fun t => oV (bkS S) (bCt (bkS S)) t (bU (bkS S) t) (bA (bkS S) t)) (bT (bkS S))
  have hb : -1 ≤ agT (bkS S) ∧ agT (bkS S) < (S.t : Nat) := hb
  have ht := hk.1.2.2
  have hR1 := RdR_f hS f1 fun x h1 h2 => by simp; omega
  have e0 := (f1 124 (by decide)).1
  have l : iI (agT (bkS S)) < 0 ↔ agT (bkS S) < 0 := iI_lt (b := 0) (by omega) (by omega) (by omega) (by omega)
  dsimp only
  rw [l]
  refine ⟨fun z => ?_, fun z => ?_⟩
  · exact c191c (d := d + 1) hR1 hk (by rw [e0]; exact h27) (by rw [e0]; exact h0) fun s hN => KO s s1 (by omega) f1 hN
  · obtain ⟨a, ha⟩ : ∃ a : Nat, agT (bkS S) = a := ⟨(agT (bkS S)).toNat, by omega⟩
    rw [ha, ← iI_nI, nI_clamp (by omega)]
    refine ⟨vp_in_nI (by omega) (by decide), KE _ (by omega) ⟨?_, fun y hy => ?_, fun y hy => ?_, ?_⟩ ⟨⟨?_, ?_⟩, (show 0 < 6 by decide), (show 6 < 10 by decide)⟩⟩
    · exact ((f1.mono (by intro x hx; simp at hx; subst hx; decide)).I (by decide)).I (by decide)
    · rw [sI_of _ _ (by omega), sI_of _ _ (by omega), e0]
    · rw [sI_L, sI_L, (f1 124 (by decide)).2.1]
    · rw [sI_of _ _ (by omega), sI_of _ _ (by omega), e0]; exact h0.1
    · rw [sI_of _ _ (by omega), sI_at]; rfl
    · rw [sI_at, sI_of _ _ (by omega), ha]; exact (hR1.2.2.2 a (by omega)).2.2
theorem c191g {law : Bool} (hn : n ≤ 1300) (hb : ∀ i, b i < 256) : ∀ (f i : Nat) (S : Rds) (j : Nat) (σ : Mem), i + f = 1302 → i ≤ 1300 → i ≤ j → TkR b n law j σ → RdR S σ → RdsOk S → σ.1 124 27 = nI i → σ.1 124 1 = 0 →
    (∀ e σ', rBook (tok b n law) f S i j = .error e → Fr lsR σ σ' ∧ (∀ y, 28 ≤ y → σ'.1 124 y = σ.1 124 y) ∧ (∀ y, y ≠ 9 → σ'.2.1 124 y = σ.2.1 124 y) ∧ σ'.1 124 1 = σ.1 124 1 → FaR e σ' → Q (some (.int (-1))) σ') →
    (∀ S' k σ', rBook (tok b n law) f S i j = .ok (S', k) → RdsOk S' → RdR S' σ' → Fr lsR σ σ' ∧ (∀ y, 28 ≤ y → σ'.1 124 y = σ.1 124 y) ∧ (∀ y, y ≠ 9 → σ'.2.1 124 y = σ.2.1 124 y) ∧ σ'.1 124 1 = σ.1 124 1 → σ'.1 124 27 = nI k → σ'.1 124 2 = 0 ∧ σ'.1 124 3 = -1 → G Θ (d + 4 + 1) 191 78 [some (.ref 124), none, none] [] σ' Q) →
    G Θ (d + 4 + 1) 191 57 [some (.ref 124), none, none] [] σ Q
  | 0, i, S, j, σ, hi, hi', hij, h, hS, hk, h27, h1, KE, KO => by omega
  | f + 1, i, S, j, σ, hi, hi', hij, h, hS, hk, h27, h1, KE, KO => by
    have l : nI (srt (tok b n law j)) = 0 ↔ (tok b n law j).1 = 0 := by
      rw [← srt_k (law := law) (b := b) hn j (show 0 ≤ 2 by omega)]
      exact nI_eq (b := 0) (by have := srt_lt (law := law) hn hb j; omega) (by omega)
    refine B191_57 ⟨fun z => absurd (TkR_0 h).2 z, fun _ => ?_⟩
    rw [(TkR_st h).1, l]
    refine ⟨fun q => KO S i σ (if_pos q) hk hS ⟨Fr.rfl, fun _ _ => rfl, fun _ _ => rfl, rfl⟩ h27 h.2.1, fun q => ?_⟩
    have eB : rBook (tok b n law) (f + 1) S i j = andT (rLine (tok b n law) S j) fun a => rBook (tok b n law) f a.1 (i + 1) a.2 := if_neg q
    have hjn : j < n := tok_lt hn q
    refine c190 (d := d) hn hb h hS hk h27 (fun e s he fr t => ⟨rfl, ?_⟩) fun S' j' s he hj hk' fr t hS' h27' => ⟨rfl, ?_⟩
    · refine B191_57 ⟨fun _ => B191_78 ⟨fun z => absurd z (FaR_n t).1, fun _ => KE e s ?_ (frB_L fr) t⟩, fun z => absurd z (FaR_n t).2⟩
      rw [eB, andT_er he]
    · have eR : rBook (tok b n law) (f + 1) S i j = rBook (tok b n law) f S' (i + 1) j' := by rw [eB, andT_ok he]
      have fb := frB_L fr
      have tr : ∀ {s' : Mem}, Fr lsR s s' ∧ (∀ y, 28 ≤ y → s'.1 124 y = s.1 124 y) ∧ (∀ y, y ≠ 9 → s'.2.1 124 y = s.2.1 124 y) ∧ s'.1 124 1 = s.1 124 1 → Fr lsR σ s' ∧ (∀ y, 28 ≤ y → s'.1 124 y = σ.1 124 y) ∧ (∀ y, y ≠ 9 → s'.2.1 124 y = σ.2.1 124 y) ∧ s'.1 124 1 = σ.1 124 1 := fun g =>
        ⟨fb.1.tr g.1, fun y hy => (g.2.1 y hy).trans (fb.2.1 y hy), fun y hy => (g.2.2.1 y hy).trans (fb.2.2.1 y hy), g.2.2.2.trans fb.2.2.2⟩
      exact c191g hn hb f (i + 1) S' j' s (by omega) (by omega) (by omega) t hS' hk' h27' (fb.2.2.2.trans h1) (fun e s' he' g t' => KE e s' (by rw [eR]; exact he') (tr g) t') fun S'' k s' he' hk'' hS'' g h' h'' => KO S'' k s' (by rw [eR]; exact he') hk'' hS'' (tr g) h' h''
theorem c191 {σ : Mem} (hn : n ≤ 1300) (hb : ∀ i, b i < 256) (h1 : σ.1 124 1 = nI n) (h2 : ∀ i, i < n → σ.1 125 i = nI (b i))
    (KE : ∀ e s, rAll (tok b n false) = .error e → FrB σ s → FaR e s → Q (some (.int (-1))) s)
    (KO : ∀ S k s s1, rAll (tok b n false) = .ok (S, k) → RdsOk S → Fr lsR σ s1 → (∀ y, 28 ≤ y → s1.1 124 y = σ.1 124 y) → (∀ y, y ≠ 9 → s1.2.1 124 y = σ.2.1 124 y) → NewR S k s1 s → Q (some (.int (nI k))) s) : Cm Θ (d + 5) 191 [.ref 124] σ Q := by
  refine K191 (B191_0 ?_)
  rw [show (sI σ 124 10 0).1 124 1 = nI n by rw [sI_of _ _ (by omega)]; exact h1]
  obtain ⟨s0, hs0⟩ : ∃ s0, s0 = sI (sI (sI (sI (sI (sI (sI (sI (sI (sI σ 124 10 0) 124 5 (nI n)) 124 1 0) 124 4 0) 124 2 0) 124 3 (-1)) 124 24 0) 124 25 0) 124 26 0) 124 27 0 := ⟨_, rfl⟩
  rw [← hs0]
  have f0 : Fr [124] σ s0 := by
    rw [hs0]; exact (((((((((Fr.rfl.I (by simp)).I (by simp)).I (by simp)).I (by simp)).I (by simp)).I (by simp)).I (by simp)).I (by simp)).I (by simp)).I (by simp)
  have oy : ∀ y, 28 ≤ y → s0.1 124 y = σ.1 124 y := fun y hy => by
    rw [hs0, sI_of _ _ (by omega), sI_of _ _ (by omega), sI_of _ _ (by omega), sI_of _ _ (by omega), sI_of _ _ (by omega), sI_of _ _ (by omega), sI_of _ _ (by omega), sI_of _ _ (by omega), sI_of _ _ (by omega), sI_of _ _ (by omega)]
  have oL : s0.2 = σ.2 := by rw [hs0]; rfl
  have v27 : s0.1 124 27 = 0 := by rw [hs0, sI_at]
  have v26 : s0.1 124 26 = 0 := by rw [hs0, sI_of _ _ (by omega), sI_at]
  have v25 : s0.1 124 25 = 0 := by rw [hs0, sI_of _ _ (by omega), sI_of _ _ (by omega), sI_at]
  have v24 : s0.1 124 24 = 0 := by rw [hs0, sI_of _ _ (by omega), sI_of _ _ (by omega), sI_of _ _ (by omega), sI_at]
  have v3 : s0.1 124 3 = -1 := by rw [hs0, sI_of _ _ (by omega), sI_of _ _ (by omega), sI_of _ _ (by omega), sI_of _ _ (by omega), sI_at]
  have v2 : s0.1 124 2 = 0 := by rw [hs0, sI_of _ _ (by omega), sI_of _ _ (by omega), sI_of _ _ (by omega), sI_of _ _ (by omega), sI_of _ _ (by omega), sI_at]
  have v4 : s0.1 124 4 = 0 := by rw [hs0, sI_of _ _ (by omega), sI_of _ _ (by omega), sI_of _ _ (by omega), sI_of _ _ (by omega), sI_of _ _ (by omega), sI_of _ _ (by omega), sI_at]
  have v1 : s0.1 124 1 = 0 := by rw [hs0, sI_of _ _ (by omega), sI_of _ _ (by omega), sI_of _ _ (by omega), sI_of _ _ (by omega), sI_of _ _ (by omega), sI_of _ _ (by omega), sI_of _ _ (by omega), sI_at]
  have v5 : s0.1 124 5 = nI n := by rw [hs0, sI_of _ _ (by omega), sI_of _ _ (by omega), sI_of _ _ (by omega), sI_of _ _ (by omega), sI_of _ _ (by omega), sI_of _ _ (by omega), sI_of _ _ (by omega), sI_of _ _ (by omega), sI_at]
  have v10 : s0.1 124 10 = 0 := by rw [hs0, sI_of _ _ (by omega), sI_of _ _ (by omega), sI_of _ _ (by omega), sI_of _ _ (by omega), sI_of _ _ (by omega), sI_of _ _ (by omega), sI_of _ _ (by omega), sI_of _ _ (by omega), sI_of _ _ (by omega), sI_at]
  have hT : TpR b n false s0 := ⟨v5, fun i hi => by rw [(f0 125 (by decide)).1]; exact h2 i hi, v10⟩
  refine c175 (d := d + 3) (i := 0) hn hb hT (Nat.zero_le _) v4 fun s1 f1 t1 => ⟨rfl, ?_⟩
  have g1 := frT_K f1
  have gI : ∀ y, 9 ≤ y → s1.1 124 y = s0.1 124 y := g1.2.1
  have tk : TkR b n false 0 s1 := ⟨TpR_fr hT f1, ⟨by rw [f1.2.1 2 (by decide) (by decide) (by decide) (by decide)]; exact v2, by rw [f1.2.1 3 (by decide) (by decide) (by decide) (by decide)]; exact v3⟩, t1⟩
  have hR : RdR emR s1 := ⟨⟨by rw [gI 24 (by omega), v24]; rfl, fun i hi => absurd hi (Nat.not_lt_zero i)⟩, ⟨by rw [gI 25 (by omega), v25]; rfl, fun i hi => absurd hi (Nat.not_lt_zero i), fun i m hi => absurd hi (Nat.not_lt_zero i)⟩, by rw [gI 26 (by omega), v26]; rfl, fun i hi => absurd hi (Nat.not_lt_zero i)⟩
  have w1 : s1.1 124 1 = 0 := by rw [g1.2.2.1]; exact v1
  have fA : ∀ {s : Mem}, Fr lsR s1 s ∧ (∀ y, 28 ≤ y → s.1 124 y = s1.1 124 y) ∧ (∀ y, y ≠ 9 → s.2.1 124 y = s1.2.1 124 y) ∧ s.1 124 1 = s1.1 124 1 → Fr lsR σ s ∧ (∀ y, 28 ≤ y → s.1 124 y = σ.1 124 y) ∧ (∀ y, y ≠ 9 → s.2.1 124 y = σ.2.1 124 y) ∧ s.1 124 1 = 0 := fun {s} g => by
    refine ⟨(f0.mono (by intro x hx; simp at hx; subst hx; decide)).tr ((g1.1.mono (by intro x hx; simp at hx; subst hx; decide)).tr g.1), fun y hy => ?_, fun y hy => ?_, g.2.2.2.trans w1⟩
    · rw [g.2.1 y hy, gI y (by omega)]; exact oy y hy
    · rw [g.2.2.1 y hy, g1.2.2.2.2.1 y hy, oL]
  refine c191g (d := d) hn hb 1302 0 emR 0 s1 rfl (by omega) (Nat.le_refl _) tk hR ok_emR (by rw [gI 27 (by omega), v27]; rfl) w1 (fun e s he g t => KE e s (by unfold rAll; rw [andT_er he]) (fA g) t) fun S k s he hk hS g h27 h23 => ?_
  have gA := fA g
  refine c191e (d := d + 3) hS hk h27 ⟨gA.2.2.2, h23.1, h23.2⟩ (fun s' hz f' t => KE _ s' (by unfold rAll; rw [andT_ok he, if_pos hz]) ⟨gA.1.tr f'.1, fun y hy => (f'.2.1 y hy).trans (gA.2.1 y hy), fun y hy => (f'.2.2.1 y hy).trans (gA.2.2.1 y hy), f'.2.2.2⟩ t) fun s' s2 hz f2 hN => KO S k s' s2 (by unfold rAll; rw [andT_ok he, if_neg hz]) hk (gA.1.tr (f2.mono (by intro x hx; simp at hx; subst hx; decide))) (fun y hy => ?_) (fun y hy => ?_) hN
  · rw [(f2 124 (by decide)).1]; exact gA.2.1 y hy
  · rw [(f2 124 (by decide)).2.1]; exact gA.2.2.1 y hy
end rb2
