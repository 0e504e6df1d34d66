/-! THE CALLS: book -/
def stNew (s : St) (S : Rds) : St := ((s.b, 0, 0, -1), (bkS S, S.c, S.c, S.mn, fun _ => 0), emL, ([], []), fun _ => (false, bkS S))
def stF (s : St) (f p : Int32) : St := ((s.b, 0, f, p), s.2)
noncomputable def bkR (s : St) : Except Fa (Rds × Nat) := rAll (tok s.b s.n false)
noncomputable def stBo (s : St) : St := match bkR s with | .error e => stF s (nI e.1) (nI e.2) | .ok a => stNew s a.1
noncomputable def qBo (s : St) : Int32 := match bkR s with | .error _ => -1 | .ok a => nI a.2
theorem ok_new {s : St} {S : Rds} (ok : OkS s) (h : RdsOk S) : OkS (stNew s S) := by
  have hk := bkS_ok h
  obtain ⟨h1, h2, h3, h4, h5⟩ := h
  refine ⟨⟨ok.1.1, Nat.zero_le _⟩, ⟨hk, ⟨Nat.le_refl _, fun t ht => h4 t ht⟩, ⟨fun i hi => ⟨rfl, (h2 i hi).1⟩, fun i k hi hk' e => h5.1 i k hi hk' e⟩, fun m _ => Nat.zero_le _⟩, ok_emL _, ⟨by show (0 : Nat) + 0 ≤ 60; omega, True.intro, True.intro⟩, fun i hi hx => by cases hx⟩
theorem ok_stF {s : St} {f p : Int32} (ok : OkS s) : OkS (stF s f p) := ⟨⟨ok.1.1, Nat.zero_le _⟩, ok.2⟩
section book
variable {Θ : Th} {d : Nat} {σ : Mem} {Q : Po} {s : St}
theorem k119b (K : ∀ σ', Fr [77] σ σ' → (∀ i, i < 3 → σ'.1 77 i = 0) → Q (some (.int ((sI σ' 0 17 0).1 9 5))) (sI σ' 0 17 0)) : G Θ (d + 1) 119 61 [some (.ref 0), none, none, some (.int 0)] [] σ Q := by
  have n0 : vp_nar .boolean 0 = (0 : Int32) := by decide
  have start := loopS (α := Mem) (I := fun k t => Fr [77] σ t ∧ ∀ i, i < k → t.1 77 i = 0) (P := fun k t => G Θ (d + 1) 119 61 [some (.ref 0), none, none, some (.int (nI k))] [] t Q) 3 ?_ ?_ σ ⟨Fr.rfl, fun i hi => absurd hi (Nat.not_lt_zero i)⟩
  · exact start
  · intro t ⟨f, g⟩
    exact B119_61 ⟨fun _ => K t f g, fun z => absurd (by decide) z⟩
  · intro k t hk ⟨f, g⟩ ih
    have l : ¬ (3 : Int32) ≤ nI k := by rw [show (3 : Int32) = nI 3 from rfl, (mv_le (by omega) (by omega)).1]; omega
    refine B119_61 ⟨fun z => absurd z l, fun _ => ⟨vp_in_nI hk (by decide), ?_⟩⟩
    rw [nI_clamp (by omega), nI_1, n0]
    refine ih _ ⟨f.I (by simp), fun i hi => ?_⟩
    by_cases q : i = k
    · rw [q, sI_at]
    · rw [sI_of _ _ (by omega)]; exact g i (by omega)
theorem k119 (h : RC s σ) (ok : OkS s) (K : ∀ σ', CC σ σ' → OkS (stBo s) → RC (stBo s) σ' → Q (some (.int (qBo s))) σ') : Cm Θ (d + 7) 119 [.ref 0] σ Q := by
  obtain ⟨r, o, hB, kn⟩ := id h
  obtain ⟨r1, r2, r3, r4⟩ := rB_r hB
  obtain ⟨o1, o2, o3, o4⟩ := rB_o hB
  obtain ⟨q, hq, e3, hq3⟩ : ∃ q, (q = 12 ∨ q = 22) ∧ σ.2.2 0 3 = q ∧ ((r = 12 ∧ q = 22) ∨ (r = 22 ∧ q = 12)) := by
    rcases hB.1.1 with ⟨a, b⟩ | ⟨a, b⟩
    · exact ⟨22, Or.inr rfl, b, Or.inl ⟨a, rfl⟩⟩
    · exact ⟨12, Or.inl rfl, b, Or.inr ⟨a, rfl⟩⟩
  have q0 : q ≠ 0 := by omega
  have qs := bk_s hq
  have hl : ∀ x, x ∈ lsA q → x = 1 ∨ (3 ≤ x ∧ x ≤ 11) ∨ (q ≤ x ∧ x ≤ q + 9) := fun x hx => by simp [lsA, lsB] at hx; omega
  unfold stBo qBo at K
  refine K119 (B119_0 ?_)
  rw [e3]
  refine ⟨q0, qs, c20 (d := d) (n := s.n) ok.1.2 ok.1.1 hq hB.2.1.1 (fun x s1 hx f1 hf => ⟨_, rfl, fun z => absurd rfl z, fun _ => ?_⟩) (fun S k s1 hx hk hS f1 hR h95 hf hp => ⟨_, rfl, fun _ => ?_, fun z => absurd z (by decide)⟩)⟩
  · have ex : bkR s = .error x := hx
    rw [ex] at K
    have F : Fr (1 :: lsA q) σ (sI s1 1 0 0) := (f1.mono fun x hx => List.mem_cons_of_mem _ hx).I (by simp)
    have hl2 : ∀ x, x ∈ (1 :: lsA q) → x = 1 ∨ (3 ≤ x ∧ x ≤ 11) ∨ (q ≤ x ∧ x ≤ q + 9) := fun x hx => by
      rcases List.mem_cons.mp hx with w | w
      · exact Or.inl w
      · exact hl x w
    have N : ∀ x, x ≠ 1 → ¬ (3 ≤ x ∧ x ≤ 11) → ¬ (q ≤ x ∧ x ≤ q + 9) → x ∉ (1 :: lsA q) := fun x a b c w => by have := hl2 x w; omega
    obtain ⟨h0, h1, ⟨h2, h3⟩, h4, h5, h6, h7⟩ := hB
    refine K _ (cC_fr F fun x hx => by have := hl2 x hx; omega) (ok_stF ok) ⟨r, o, ⟨by rw [(F 0 (N 0 (by omega) (by omega) (by omega))).2.2]; exact h0, ⟨⟨sI_at _ _ _ _, fun i hi => absurd hi (Nat.not_lt_zero i)⟩, by rw [sI_of _ _ (by omega)]; exact hf.1, by rw [sI_of _ _ (by omega)]; exact hf.2⟩, ⟨BkC_f2 h2 F fun x x1 x2 => N x (by omega) (by omega) (by omega), NwC_fr h3 F (N _ (by omega) (by omega) (by omega))⟩, LwS_fr h4 F fun x x1 x2 => N x (by omega) (by omega) (by omega), AcC_fr h5 F fun x x1 x2 => N x (by omega) (by omega) (by omega), XC_fr h6 F fun x x1 x2 => N x (by omega) (by omega) (by omega), by rw [(F 113 (N _ (by omega) (by omega) (by omega))).1]; exact h7⟩, Kn_fr kn F (by rw [(F 0 (N 0 (by omega) (by omega) (by omega))).1]; exact ⟨rfl, rfl⟩) (by rw [(F 110 (N _ (by omega) (by omega) (by omega))).1]; exact ⟨rfl, rfl, rfl⟩) fun x hx => by have := hl2 x hx; omega⟩
  · have ex : bkR s = .ok (S, k) := hx
    rw [ex] at K
    have z0 := f1 0 (fun w => by have := hl 0 w; omega)
    have e2' : (sI s1 1 0 0).2.2 0 2 = r := by rw [sI_R, z0.2.2]; exact r1
    have e3' : (sI s1 1 0 0).2.2 0 3 = q := by rw [sI_R, z0.2.2]; exact e3
    try dsimp only
    rw [e2', e3']
    obtain ⟨τ, hτ⟩ : ∃ τ, τ = sR (sR (sI s1 1 0 0) 0 2 q) 0 3 r := ⟨_, rfl⟩
    rw [← hτ]
    have t4 : τ.2.2 0 4 = o := by rw [hτ, sR_of _ _ (by omega), sR_of _ _ (by omega), sI_R, z0.2.2]; exact o1
    rw [t4]
    refine ⟨r2, r3, q0, qs, q0, r2, o2, o3, K0 (B0_0 ⟨rfl, k119b fun s2 f2 g2 => ?_⟩)⟩
    obtain ⟨ρ, hρ⟩ : ∃ ρ, ρ = sI (sI (sI τ o 2 0) 78 0 0) 78 1 0 := ⟨_, rfl⟩
    rw [← hρ] at f2
    have i1 : ∀ l, l ≠ 1 → l ≠ o → l ≠ 78 → l ≠ 77 → s2.1 l = s1.1 l := fun l a b c e => by
      rw [(f2 l (by simp; exact e)).1, hρ, sI_ne (by omega), sI_ne (by omega), sI_ne (by omega), hτ]
      show (sI s1 1 0 0).1 l = _
      exact sI_ne (by omega)
    have i2 : ∀ l, l ≠ 77 → s2.2.1 l = s1.2.1 l := fun l e => by
      rw [(f2 l (by simp; exact e)).2.1, hρ, hτ]; rfl
    have eo : s2.1 o 2 = 0 := by rw [(f2 o (by simp; omega)).1, hρ, sI_of _ _ (by omega), sI_of _ _ (by omega), sI_at]
    have e1a : s2.1 1 0 = 0 ∧ s2.1 1 1 = 0 ∧ s2.1 1 2 = -1 := by
      have : s2.1 1 = (sI s1 1 0 0).1 1 := by
        rw [(f2 1 (by decide)).1, hρ, sI_ne (by omega), sI_ne (by omega), sI_ne (by omega), hτ]; rfl
      rw [this]
      exact ⟨sI_at _ _ _ _, by rw [sI_of _ _ (by omega)]; exact hf, by rw [sI_of _ _ (by omega)]; exact hp⟩
    have e78 : s2.1 78 0 = 0 ∧ s2.1 78 1 = 0 := by
      rw [(f2 78 (by decide)).1, hρ]
      exact ⟨by rw [sI_of _ _ (by omega), sI_at], sI_at _ _ _ _⟩
    have eR : s2.2.2 0 2 = q ∧ s2.2.2 0 3 = r ∧ s2.2.2 0 4 = σ.2.2 0 4 ∧ s2.2.2 0 5 = σ.2.2 0 5 := by
      rw [(f2 0 (by decide)).2.2, hρ]
      show τ.2.2 0 2 = q ∧ τ.2.2 0 3 = r ∧ τ.2.2 0 4 = _ ∧ τ.2.2 0 5 = _
      rw [hτ]
      refine ⟨by rw [sR_of _ _ (by omega), sR_at], sR_at _ _ _ _, ?_, ?_⟩
      · rw [sR_of _ _ (by omega), sR_of _ _ (by omega), sI_R, z0.2.2]
      · rw [sR_of _ _ (by omega), sR_of _ _ (by omega), sI_R, z0.2.2]
    obtain ⟨⟨hR1, hR2⟩, ⟨a1, a2, a3, a4⟩, ⟨b1, b2, b3, b4, b5, b6⟩, c1, c2⟩ := hR
    have fz : Fr [0] s2 (sI s2 0 17 0) := Fr.rfl.I (by simp)
    have z1 : ∀ l, l ≠ 0 → (sI s2 0 17 0).1 l = s2.1 l := fun l hl' => sI_ne hl'
    have e95 : (sI s2 0 17 0).1 9 5 = nI k := by rw [z1 9 (by decide), i1 9 (by omega) (by omega) (by omega) (by omega)]; exact h95
    rw [e95]
    have J : ∀ l, q ≤ l → l ≤ q + 9 → (sI s2 0 17 0).1 l = s1.1 l ∧ (sI s2 0 17 0).2.1 l = s1.2.1 l := fun l l1 l2 => ⟨by rw [z1 l (by omega), i1 l (by omega) (by omega) (by omega) (by omega)], i2 l (by omega)⟩
    have hBk : BkC q S.c (bkS S) (sI s2 0 17 0) := by
      have row : ∀ i, i < S.c → s1.1 (q + 3) i = nI (S.cj i) ∧ s1.1 (q + 4) i = nI (S.cy i) ∧ s1.1 (q + 5) i = nI (S.cg i) ∧ s1.1 (q + 6) i = nI (S.cw i) := b3
      refine ⟨hq, ⟨by rw [(J q (by omega) (by omega)).1]; exact a1, fun i hi => by rw [(J (q + 1) (by omega) (by omega)).2]; exact a2 i hi, fun i hi => by rw [(J (q + 2) (by omega) (by omega)).1]; exact a3 i hi, by rw [(J q (by omega) (by omega)).1]; exact a4⟩, ⟨by rw [(J q (by omega) (by omega)).1]; exact b1, fun i hi => by rw [(J (q + 3) (by omega) (by omega)).1]; exact (row i hi).1, fun i hi => by rw [(J (q + 4) (by omega) (by omega)).1]; exact (row i hi).2.1, fun i hi => by rw [(J (q + 5) (by omega) (by omega)).1]; exact (row i hi).2.2.1, fun i hi => by rw [(J (q + 6) (by omega) (by omega)).1]; exact (row i hi).2.2.2, fun c m hc hm => by rw [(J (q + 7) (by omega) (by omega)).1]; exact b4 c m hc (by have := hS.1.1; have hm : m < S.m := hm; omega)⟩, by rw [(J q (by omega) (by omega)).1]; exact c1, fun t ht => by rw [(J (q + 8) (by omega) (by omega)).1]; exact (c2 t ht).1, fun t ht => by rw [(J (q + 9) (by omega) (by omega)).1]; exact (c2 t ht).2.1⟩
    refine K _ ?_ (ok_new ok hS) ⟨q, o, ⟨⟨?_, ?_, ?_, ?_⟩, ⟨⟨?_, fun i hi => absurd hi (Nat.not_lt_zero i)⟩, ?_, ?_⟩, ⟨hBk, fun m hm => ?_⟩, ⟨o4, ?_, Or.inl rfl⟩, ⟨⟨?_, ?_⟩, True.intro, True.intro⟩, fun i hi => ⟨?_, fun w => (by cases w)⟩, ?_⟩, Kn_0 (sI_at _ _ _ _)⟩
    · have hlc : ∀ x, x ∈ lsA q → x < 124 := fun x hx => by have := hl x hx; omega
      have F : Fr lsCls σ s1 := cC_fr f1 hlc
      refine Fr.tr F fun l hlt => ?_
      have hlt : ¬ l < 124 := fun w => hlt (List.mem_range.mpr w)
      refine ⟨by rw [z1 l (by omega), i1 l (by omega) (by omega) (by omega) (by omega)], i2 l (by omega), ?_⟩
      show s2.2.2 l = _
      rw [(f2 l (by simp; omega)).2.2, hρ]
      show τ.2.2 l = _
      rw [hτ, sR_ne (by omega), sR_ne (by omega)]; rfl
    · show (q = 12 ∧ s2.2.2 0 3 = 22) ∨ (q = 22 ∧ s2.2.2 0 3 = 12)
      rw [eR.2.1]; omega
    · exact eR.1
    · show (o = 32 ∧ s2.2.2 0 5 = 39) ∨ (o = 39 ∧ s2.2.2 0 5 = 32)
      rw [eR.2.2.2]; exact hB.1.2.2.1
    · show s2.2.2 0 4 = o
      rw [eR.2.2.1]; exact o1
    · rw [z1 1 (by decide)]; exact e1a.1
    · rw [z1 1 (by decide)]; exact e1a.2.1
    · rw [z1 1 (by decide)]; exact e1a.2.2
    · have hm : m < S.m := hm
      have := hS.1
      show (sI s2 0 17 0).1 (q + 7) (6 * 16 + m) = nI 0
      rw [(J (q + 7) (by omega) (by omega)).1]
      by_cases w : S.c = 16
      · have := b5 m (by omega); rw [w] at this; exact this
      · exact b6 _ (by omega) (by omega)
    · rw [z1 o (by omega)]; exact eo
    · rw [z1 78 (by decide)]; exact e78.1
    · rw [z1 78 (by decide)]; exact e78.2
    · rw [z1 77 (by decide)]; exact g2 i hi
    · rw [z1 113 (by decide), i1 113 (by omega) (by omega) (by omega) (by omega), (f1 113 (fun w => by have := hl _ w; omega)).1]; exact hB.2.2.2.2.2.2
theorem k191 (h : RR s σ) (ok : OkS s) (K : ∀ σ', CR σ σ' → RR (stBo s) σ' → Q (some (.int (qBo s))) σ') : Cm Θ (d + 5) 191 [.ref 124] σ Q := by
  unfold stBo qBo at K
  have hl : ∀ x, x ∈ lsR → x = 124 ∨ (126 ≤ x ∧ x ≤ 138) ∨ x = 149 := fun x hx => by simp [lsR] at hx; omega
  have hlW : ∀ x, x ∈ lsW → 124 ≤ x ∧ x < 185 := fun x hx => by simp [lsW, lsR] at hx; omega
  refine c191 (d := d) (n := s.n) ok.1.2 ok.1.1 h.1.1.1 h.1.1.2 (fun e s1 hx fb hf => ?_) (fun S k s2 s1 hx hS f1 y1 l1 nw => ?_)
  · have ex : bkR s = .error e := hx
    rw [ex] at K
    obtain ⟨f1, y1, -, y0⟩ := fb
    obtain ⟨-, h5, h6, h7, h8, h9⟩ := h
    have g : ∀ x, x ≠ 124 → ¬ (126 ≤ x ∧ x ≤ 138) → x ≠ 149 → s1.1 x = σ.1 x ∧ s1.2.1 x = σ.2.1 x := fun x a b c => ⟨(f1 x (fun q => by have := hl x q; omega)).1, (f1 x (fun q => by have := hl x q; omega)).2.1⟩
    exact K s1 (cR_fr f1 fun x hx => by have := hl x hx; omega) ⟨⟨⟨y0, fun i hi => absurd hi (Nat.not_lt_zero i)⟩, hf.1.1, hf.1.2⟩, BkR_eq (fun j a b => g j (by omega) (by omega) (by omega)) (y1 37 (by omega)) (y1 38 (by omega)) (y1 39 (by omega)) h5, fun m hm => by rw [(g 173 (by omega) (by omega) (by omega)).1]; exact h6 m hm, LwF_eq (fun j a b => (g j (by omega) (by omega) (by omega)).1) (y1 70 (by omega)) h7, AcR_eq (y1 78 (by omega)) (y1 79 (by omega)) (g 174 (by omega) (by omega) (by omega)).1 (g 175 (by omega) (by omega) (by omega)).1 (g 176 (by omega) (by omega) (by omega)).1 h8, XR_eq (fun j a b => (g j (by omega) (by omega) (by omega)).1) h9⟩
  · have ex : bkR s = .ok (S, k) := hx
    rw [ex] at K
    obtain ⟨f2, ⟨e1, e2, e3, e70, e78, e79⟩, bk, n0, x0⟩ := nw
    refine K s2 (cR_tr (cR_fr f1 fun x hx => by have := hl x hx; omega) (cR_fr f2 hlW)) ⟨⟨⟨e1, fun i hi => absurd hi (Nat.not_lt_zero i)⟩, e2, e3⟩, bk, fun m hm => ?_, ⟨e70, fun i hi => absurd hi (Nat.not_lt_zero i), fun i hi => absurd hi (Nat.not_lt_zero i)⟩, ⟨⟨e78, e79⟩, True.intro, True.intro⟩, fun i hi => ⟨x0 i hi, fun w => (by cases w)⟩⟩
    have hm : m < S.m := hm
    exact n0 m (by have := hS.1.1; omega)
end book
