/-! THE CALLS: come, the class -/
def putC (B : Bk) (N j y g w : Nat) (st : Nat → Nat) : Bk := (B.1, (B.2.1.1, upN (bJ B) N j, upN (bY B) N y, upN (bG B) N g, upN (bW B) N w, fun c m => if c = N then st m else bS B c m), B.2.2)
noncomputable def cmB (s : St) (x1 x2 x3 x4 : Int32) : Bool := dP (isN x1 10) && (dP (isN x2 100) && (dP (isN x3 241) && (decide (1 ≤ x4.toInt ∧ x4.toInt ≤ 4) && decide (bN s.B < 16))))
def stP (s : St) (j y g w : Nat) : St := stQ s (putC s.B (bN s.B) j y g w s.nw) (bN s.B + 1) s.D []
noncomputable def stCm (s : St) (x1 x2 x3 x4 : Int32) : St := if cmB s x1 x2 x3 x4 = true then stA (stP s x1.toNatClampNeg x2.toNatClampNeg x3.toNatClampNeg x4.toNatClampNeg) (0, bN s.B, 0, 0) else s
noncomputable def qCm (s : St) (x1 x2 x3 x4 : Int32) : Int32 := if cmB s x1 x2 x3 x4 = true then nI (bN s.B) else -1
theorem ok_put {s : St} {j y g w : Nat} (ok : OkS s) (hN : bN s.B < 16) (hj : j ≤ 9) (hy : y ≤ 99) (hg : g ≤ 240) (hw : 1 ≤ w ∧ w ≤ 4) : OkS (stP s j y g w) ∧ preA s.n0 (bN s.B + 1) (0, bN s.B, 0, 0) (putC s.B (bN s.B) j y g w s.nw) := by
  have hkB := ok.2.1.1
  obtain ⟨k1, ⟨k2, k3⟩, k4, k5, k6, k7, k8⟩ := id hkB
  obtain ⟨hl, hd, hu⟩ := ok.2.2.2.1
  have e : ∀ c, c ≠ bN s.B → bJ (putC s.B (bN s.B) j y g w s.nw) c = bJ s.B c ∧ bY (putC s.B (bN s.B) j y g w s.nw) c = bY s.B c ∧ bG (putC s.B (bN s.B) j y g w s.nw) c = bG s.B c ∧ bW (putC s.B (bN s.B) j y g w s.nw) c = bW s.B c ∧ ∀ m, bS (putC s.B (bN s.B) j y g w s.nw) c m = bS s.B c m := fun c hc => ⟨upN_ne hc, upN_ne hc, upN_ne hc, upN_ne hc, fun m => if_neg hc⟩
  have e' : bJ (putC s.B (bN s.B) j y g w s.nw) (bN s.B) = j ∧ bY (putC s.B (bN s.B) j y g w s.nw) (bN s.B) = y ∧ bG (putC s.B (bN s.B) j y g w s.nw) (bN s.B) = g ∧ bW (putC s.B (bN s.B) j y g w s.nw) (bN s.B) = w ∧ ∀ m, bS (putC s.B (bN s.B) j y g w s.nw) (bN s.B) m = s.nw m := ⟨upN_at, upN_at, upN_at, upN_at, fun m => if_pos rfl⟩
  refine ⟨ok_stQ ok ⟨⟨k1, ⟨Nat.le_succ _, by omega⟩, k4, k5, fun c hc => ?_, k7, k8⟩, ok.2.1.2.1⟩ ⟨rfl, rfl, rfl, rfl, rfl, rfl⟩ (by rw [List.length_nil]; omega) (DnA_congr (B := s.B) rfl rfl rfl (fun c hc => (e c (by omega)).2.2.1) hd) True.intro, Or.inl ⟨rfl, rfl, ok.2.1.2.1.1, Nat.lt_succ_self _⟩⟩
  by_cases q : c = bN s.B
  · rw [q, e'.1, e'.2.1, e'.2.2.1, e'.2.2.2.1]
    exact ⟨hj, hy, hg, hw.1, hw.2, fun m hm => by rw [e'.2.2.2.2]; exact ok.2.1.2.2.2 m hm⟩
  · obtain ⟨q1, q2, q3, q4, q5⟩ := e c q
    rw [q1, q2, q3, q4]
    have h := k6 c (by omega)
    exact ⟨h.1, h.2.1, h.2.2.1, h.2.2.2.1, h.2.2.2.2.1, fun m hm => by rw [q5]; exact h.2.2.2.2.2 m hm⟩
theorem cmB_ex {s : St} {x1 x2 x3 x4 : Int32} (h : cmB s x1 x2 x3 x4 = true) : ∃ j y g w : Nat, (j ≤ 9 ∧ y ≤ 99 ∧ g ≤ 240 ∧ 1 ≤ w ∧ w ≤ 4) ∧ bN s.B < 16 ∧ x1 = nI j ∧ x2 = nI y ∧ x3 = nI g ∧ x4 = nI w := by
  unfold cmB at h
  rw [Bool.and_eq_true, Bool.and_eq_true, Bool.and_eq_true, Bool.and_eq_true, decide_eq_true_eq, decide_eq_true_eq] at h
  obtain ⟨h1, h2, h3, h4, h5⟩ := h
  obtain ⟨j, hj, e1⟩ := isN_ex (dP_iff.mp h1) (by omega)
  obtain ⟨y, hy, e2⟩ := isN_ex (dP_iff.mp h2) (by omega)
  obtain ⟨g, hg, e3⟩ := isN_ex (dP_iff.mp h3) (by omega)
  obtain ⟨w, ew, e4, -, -⟩ := clamp_ex (x := x4) (by omega)
  exact ⟨j, y, g, w, ⟨by omega, by omega, by omega, by omega, by omega⟩, h5, e1, e2, e3, e4⟩
section come
variable {Θ : Th} {d : Nat} {σ : Mem} {Q : Po} {s : St}
theorem k147 {x1 x2 x3 x4 : Int32} (h : RC s σ) (ok : OkS s) (K : ∀ σ', CC σ σ' → OkS (stCm s x1 x2 x3 x4) → RC (stCm s x1 x2 x3 x4) σ' → Q (some (.int (qCm s x1 x2 x3 x4))) σ') : Cm Θ (d + 4) 147 [.ref 0, .int x1, .int x2, .int x3, .int x4] σ Q := by
  obtain ⟨r, o, hB, kn⟩ := id h
  obtain ⟨r1, r2, r3, r4⟩ := rB_r hB
  have h16 := bk16 ok
  have hkB := ok.2.1.1
  have hm := bm6 hkB
  have hlv : bN s.B ≤ s.lv := by have := hkB.2.1; omega
  have hB' := hB.2.2.1.1
  have hn := hB'.2.2.1.1
  have l0 : x1 < 0 ↔ x1.toInt < 0 := i_lt
  have l9 : (9 : Int32) < x1 ↔ 9 < x1.toInt := i_lt
  have l1 : x4 < 1 ↔ x4.toInt < 1 := i_lt
  have l4 : (4 : Int32) < x4 ↔ 4 < x4.toInt := i_lt
  unfold stCm qCm at K
  have bad : cmB s x1 x2 x3 x4 = false → Q (some (.int (-1))) σ := fun q => by rw [q] at K; exact K σ cC_rfl ok h
  have f10 : (x1.toInt < 0 ∨ 9 < x1.toInt) → dP (isN x1 10) = false := fun q => by
    cases hx : dP (isN x1 10)
    · rfl
    · have := x09.mp hx; omega
  refine K147 (B147_0 ?_)
  rw [l0, l9]
  have l16 : nI (bN s.B) < 16 ↔ bN s.B < 16 := by rw [show (16 : Int32) = nI 16 from rfl]; exact (mv_le (by omega) (by omega)).2.1
  refine ⟨fun z => bad (by unfold cmB; rw [f10 (Or.inl z)]; rfl), fun z => ⟨fun z' => bad (by unfold cmB; rw [f10 (Or.inr z')]; rfl), fun z' => c156 ⟨_, rfl, fun y => bad (by rw [b01_0] at y; unfold cmB; rw [y]; simp), fun y => c157 ⟨_, rfl, fun w => bad (by rw [b01_0] at w; unfold cmB; rw [w]; simp), fun w => ?_⟩⟩⟩⟩
  rw [l1, l4, r1, hn, l16]
  refine ⟨fun u => bad (by unfold cmB; rw [decide_eq_false (p := 1 ≤ x4.toInt ∧ x4.toInt ≤ 4) (by omega)]; simp), fun u => ⟨fun u' => bad (by unfold cmB; rw [decide_eq_false (p := 1 ≤ x4.toInt ∧ x4.toInt ≤ 4) (by omega)]; simp), fun u' => ⟨r2, r3, fun v => ⟨r2, r3, r2, r3, ?_⟩, fun v => bad (by unfold cmB; rw [decide_eq_false v]; simp)⟩⟩⟩
  rw [b01_n] at y w
  have et : cmB s x1 x2 x3 x4 = true := by
    unfold cmB; rw [x09.mpr (by omega), y, w, decide_eq_true (p := 1 ≤ x4.toInt ∧ x4.toInt ≤ 4) (by omega), decide_eq_true v]; rfl
  obtain ⟨j, yy, g, ww, hv, hN, e1, e2, e3, e4⟩ := cmB_ex et
  rw [if_pos et, if_pos et, e1, e2, e3, e4, nI_clamp (by omega), nI_clamp (by omega), nI_clamp (by omega), nI_clamp (by omega)] at K
  rw [e1, e2, e3, e4]
  obtain ⟨ok1, pre1⟩ := ok_put (s := s) ok hN hv.1 hv.2.1 hv.2.2.1 hv.2.2.2
  have vN := vp_in_nI (show bN s.B < 16 from hN) (by decide)
  refine K9 (B9_0 r3 ⟨vN, vN, vN, vN, ⟨rfl, ?_⟩⟩)
  rw [nI_clamp (by omega)]
  obtain ⟨N, hNd⟩ : ∃ N, N = bN s.B := ⟨_, rfl⟩
  rw [← hNd] at K pre1 hN ⊢
  obtain ⟨τ, hτ⟩ : ∃ τ, τ = sI (sI (sI (sI σ (r + 3) N (nI j)) (r + 4) N (nI yy)) (r + 5) N (nI g)) (r + 6) N (nI ww) := ⟨_, rfl⟩
  rw [← hτ]
  have fτ : Fr [r + 3, r + 4, r + 5, r + 6] σ τ := by rw [hτ]; exact (((Fr.rfl.I (by simp)).I (by simp)).I (by simp)).I (by simp)
  have eτ : (∀ i, τ.1 (r + 3) i = if i = N then nI j else σ.1 (r + 3) i) ∧ (∀ i, τ.1 (r + 4) i = if i = N then nI yy else σ.1 (r + 4) i) ∧ (∀ i, τ.1 (r + 5) i = if i = N then nI g else σ.1 (r + 5) i) ∧ (∀ i, τ.1 (r + 6) i = if i = N then nI ww else σ.1 (r + 6) i) := by
    rw [hτ]
    refine ⟨fun i => ?_, fun i => ?_, fun i => ?_, fun i => ?_⟩
    · rw [sI_of _ _ (by omega), sI_of _ _ (by omega), sI_of _ _ (by omega)]
      by_cases q : i = N
      · rw [if_pos q, q, sI_at]
      · rw [if_neg q, sI_of _ _ (by omega)]
    · rw [sI_of _ _ (by omega), sI_of _ _ (by omega)]
      by_cases q : i = N
      · rw [if_pos q, q, sI_at]
      · rw [if_neg q, sI_of _ _ (by omega), sI_of _ _ (by omega)]
    · rw [sI_of _ _ (by omega)]
      by_cases q : i = N
      · rw [if_pos q, q, sI_at]
      · rw [if_neg q, sI_of _ _ (by omega), sI_of _ _ (by omega), sI_of _ _ (by omega)]
    · by_cases q : i = N
      · rw [if_pos q, q, sI_at]
      · rw [if_neg q, sI_of _ _ (by omega), sI_of _ _ (by omega), sI_of _ _ (by omega), sI_of _ _ (by omega)]
  have z0 : (τ.2.2 0 2 = r) ∧ τ.1 r 0 = nI (bM s.B) := ⟨by rw [(fτ 0 (by simp)).2.2]; exact r1, by rw [(fτ r (by simp)).1]; exact hB'.2.1.1⟩
  refine loopS (α := Mem) (I := fun m t => Fr [r + 7] τ t ∧ (∀ i, i < m → t.1 (r + 7) (6 * N + i) = nI (s.nw i)) ∧ ∀ q, (∀ i, i < m → q ≠ 6 * N + i) → t.1 (r + 7) q = τ.1 (r + 7) q) (P := fun m t => G Θ (d + 4) 147 88 [some (.ref 0), none, none, none, none, none, some (.int (nI N)), some (.int (nI m))] [] t Q) (bM s.B) ?_ ?_ τ ⟨Fr.rfl, fun i hi => absurd hi (Nat.not_lt_zero i), fun _ _ => rfl⟩
  · intro t ⟨ft, t1, t2⟩
    have F : Fr [r + 3, r + 4, r + 5, r + 6, r + 7] σ t := (fτ.mono (by intro x hx; simp at hx; simp; omega)).tr (ft.mono (by intro x hx; simp at hx; simp; omega))
    have eR : t.2.2 0 2 = r := by rw [(ft 0 (by simp)).2.2]; exact z0.1
    have e0 : t.1 r 0 = nI (bM s.B) := by rw [(ft r (by simp)).1]; exact z0.2
    refine B147_88 ?_
    rw [eR, e0]
    refine ⟨r2, r3, fun _ => ?_, fun q => absurd (nI_le (Nat.le_refl _) (by omega)) q⟩
    have bk : BkC r (N + 1) (putC s.B N j yy g ww s.nw) t := by
      obtain ⟨b0, ⟨a1, a2, a3, a4⟩, ⟨b1, b2, b3, b4, b5, b6⟩, c1, c2, c3⟩ := hB'
      have er : ∀ x, x ≠ r + 7 → t.1 x = τ.1 x := fun x hx => (ft x (by simp; exact hx)).1
      have eo : ∀ x, (x < r + 3 ∨ r + 7 < x) → t.1 x = σ.1 x ∧ t.2.1 x = σ.2.1 x := fun x hx => ⟨(F x (by simp; omega)).1, (F x (by simp; omega)).2.1⟩
      refine ⟨b0, ⟨by rw [(eo r (by omega)).1]; exact a1, fun m hm' => by rw [(eo (r + 1) (by omega)).2]; exact a2 m hm', fun m hm' => by rw [(eo (r + 2) (by omega)).1]; exact a3 m hm', by rw [(eo r (by omega)).1]; exact a4⟩, ⟨by rw [(eo r (by omega)).1]; exact b1, fun c hc => ?_, fun c hc => ?_, fun c hc => ?_, fun c hc => ?_, fun c m hc hm' => ?_⟩, by rw [(eo r (by omega)).1]; exact c1, fun m hm' => by rw [(eo (r + 8) (by omega)).1]; exact c2 m hm', fun m hm' => by rw [(eo (r + 9) (by omega)).1]; exact c3 m hm'⟩
      · rw [er (r + 3) (by omega), eτ.1]
        show _ = nI (upN (bJ s.B) N j c)
        by_cases q : c = N
        · rw [if_pos q, q, upN_at]
        · rw [if_neg q, upN_ne q]; exact b2 c (by omega)
      · rw [er (r + 4) (by omega), eτ.2.1]
        show _ = nI (upN (bY s.B) N yy c)
        by_cases q : c = N
        · rw [if_pos q, q, upN_at]
        · rw [if_neg q, upN_ne q]; exact b3 c (by omega)
      · rw [er (r + 5) (by omega), eτ.2.2.1]
        show _ = nI (upN (bG s.B) N g c)
        by_cases q : c = N
        · rw [if_pos q, q, upN_at]
        · rw [if_neg q, upN_ne q]; exact b4 c (by omega)
      · rw [er (r + 6) (by omega), eτ.2.2.2]
        show _ = nI (upN (bW s.B) N ww c)
        by_cases q : c = N
        · rw [if_pos q, q, upN_at]
        · rw [if_neg q, upN_ne q]; exact b5 c (by omega)
      · show _ = nI (if c = N then s.nw m else bS s.B c m)
        have hm' : m < bM s.B := hm'
        by_cases q : c = N
        · rw [if_pos q, q]; exact t1 m hm'
        · rw [if_neg q, t2 _ (fun i hi => by omega), (fτ (r + 7) (by simp)).1]; exact b6 c m (by omega) hm'
    have nw : NwC r (putC s.B N j yy g ww s.nw) s.nw t := fun m hm' => by
      have hm' : m < bM s.B := hm'
      rw [t2 _ (fun i hi => by omega), (fτ (r + 7) (by simp)).1]; exact hB.2.2.1.2 m hm'
    have ac : AcC s.D s.U t := AcC_fr hB.2.2.2.2.1 F fun x x1 x2 q => by simp at q; omega
    have hB2 : RB (stQ s (putC s.B N j yy g ww s.nw) (N + 1) s.D s.U) r o t := RB_set hB F (F 0 (by simp)).2.2 (fun x hx => by simp at hx; omega) bk nw ac
    have okA := ok_stA (s := stP s j yy g ww) (a := (0, N, 0, 0)) ok1 (by rw [hNd] at pre1 ⊢; exact pre1)
    have hl60 := ok.2.2.2.1.1
    refine k167 (d := d) (k := 0) (c := N) (v := 0) (w := 0) (B' := putC s.B N j yy g ww s.nw) (lv := N + 1) (U := []) hB2 eR ac (by show s.D.length ≤ 60; omega) (by omega) ⟨fun q => absurd q (by decide), fun q => absurd q (by decide)⟩ bk nw fun σ' cc hC => ⟨rfl, ?_⟩
    exact K σ' (cC_tr (cC_fr F fun x hx => by simp at hx; omega) cc) okA (by unfold stA stP; rw [← hNd]; exact hC)
  · intro m t hm' ⟨ft, t1, t2⟩ ih
    have eR : t.2.2 0 2 = r := by rw [(ft 0 (by simp)).2.2]; exact z0.1
    have e0 : t.1 r 0 = nI (bM s.B) := by rw [(ft r (by simp)).1]; exact z0.2
    refine B147_88 ?_
    rw [eR, e0, nI_1]
    refine ⟨r2, r3, fun q => absurd q (nI_ge hm' (by omega)), fun _ => ⟨r2, r3, r2, r3, ro (c15 (c := 16) r3 (by omega) (by omega)) ?_⟩⟩
    have ev : t.1 (r + 7) (6 * 16 + m) = nI (s.nw m) := by
      rw [t2 _ (fun i hi => by omega), (fτ (r + 7) (by simp)).1]; exact hB.2.2.1.2 m hm'
    rw [ev]
    refine Cm.mono (c16 (c := N) (m := m) r3 (by omega) (by omega)) fun v' s1 ⟨e, e'⟩ => ⟨e, ?_⟩
    rw [e']
    refine ih _ ⟨ft.I (by simp), fun i hi => ?_, fun q hq => ?_⟩
    · by_cases w' : i = m
      · rw [w', sI_at]
      · rw [sI_of _ _ (by omega)]; exact t1 i (by omega)
    · rw [sI_of _ _ (by have := hq m (by omega); omega)]; exact t2 q fun i hi => hq i (by omega)
end come
