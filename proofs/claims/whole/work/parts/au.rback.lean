/-! THE CALLS: back, come: the reference -/
section rback
variable {Θ : Th} {d : Nat} {σ : Mem} {Q : Po} {s : St}
theorem k284 {x1 : Int32} (h : RR s σ) (ok : OkS s) (K : ∀ σ', CR σ σ' → RR (stBk s x1) σ' → Q (some (.int (qBa s x1))) σ') : Cm Θ (d + 1) 284 [.ref 124, .int x1] σ Q := by
  have hkB := ok.2.1.1
  unfold stBk qBa at K
  have bad : bkB s x1 = false → Q (some (.int (-1))) σ := fun q => by rw [q] at K; exact K σ cR_rfl h
  refine K284 (B284_0 (c282 ⟨_, rfl, fun z => bad (by rw [b01_0] at z; unfold bkB; rw [z]; rfl), fun z => ?_⟩))
  rw [b01_n] at z
  obtain ⟨i, hi, e1⟩ := isN_ex (dP_iff.mp z) (by omega)
  have vi := vp_in_nI hi (by decide)
  have eb : bkB s x1 = (s.x i).1 := by unfold bkB; rw [z, e1, nI_clamp (by omega)]; rfl
  obtain ⟨g1, g2⟩ := h.2.2.2.2.2 i hi
  rw [e1, nI_clamp (by omega), g1]
  refine ⟨vi, fun w => ⟨vi, ?_⟩, fun w => bad (by rw [eb]; exact b01_0.mp w)⟩
  rw [b01_n] at w
  have et : bkB s x1 = true := by rw [eb]; exact w
  rw [if_pos et, if_pos et, e1, nI_clamp (by omega)] at K
  obtain ⟨⟨u1, u2⟩, u3, u4⟩ := g2 w
  have okX := ok_stBk ok hi w
  obtain ⟨m1, m2, m3, m4, m5, m6, m7, m8⟩ := ok.2.2.2.2 i hi w
  have x16 : bN (s.x i).2 ≤ 16 := m7.2.1.2
  have xm6 : bM (s.x i).2 ≤ 6 := m7.1
  generalize (s.x i).2 = X at *
  rw [u2]
  have i_le' : ∀ x y : Nat, x < 1000000 → y < 1000000 → (nI x ≤ nI y ↔ x ≤ y) := fun x y hx hy => by rw [i_le, nI_int (by omega), nI_int (by omega)]; omega
  obtain ⟨τ, hτ⟩ : ∃ τ, τ = sI σ 124 38 (nI (bN X)) := ⟨_, rfl⟩
  rw [← hτ]
  have f0 : Fr [124] σ τ := by rw [hτ]; exact Fr.rfl.I (by simp)
  have lp1 := loopS (α := Mem) (I := fun k t => Fr [140] τ t ∧ ∀ j, j < k → t.1 140 j = σ.1 180 (96 * i + j)) (P := fun k t => G Θ (d + 1) 284 30 [some (.ref 124), some (.int (nI i)), some (.int (nI k))] [] t Q) 96 ?_ ?_ τ ⟨Fr.rfl, fun j hj => absurd hj (Nat.not_lt_zero j)⟩
  · exact lp1
  · intro t1 ⟨ft1, g1⟩
    refine B284_30 ⟨fun _ => ?_, fun z => absurd (by decide) z⟩
    have lp2 := loopS (α := Mem) (I := fun k t => Fr [147] t1 t ∧ ∀ j, j < k → t.1 147 j = b01 (bCt X j)) (P := fun k t => G Θ (d + 1) 284 61 [some (.ref 124), some (.int (nI i)), some (.int (nI k))] [] t Q) 6 ?_ ?_ t1 ⟨Fr.rfl, fun j hj => absurd hj (Nat.not_lt_zero j)⟩
    · exact lp2
    · intro t2 ⟨ft2, g2⟩
      refine B284_61 ⟨fun _ => ?_, fun z => absurd (by decide) z⟩
      have lp3 := loopS (α := Mem) (I := fun k t => Fr [141, 142, 143, 144] t2 t ∧ ∀ l, l < 4 → ∀ j, j < k → t.1 (141 + l) j = σ.1 (181 + l) (16 * i + j)) (P := fun k t => G Θ (d + 1) 284 92 [some (.ref 124), some (.int (nI i)), some (.int (nI k))] [] t Q) 16 ?_ ?_ t2 ⟨Fr.rfl, fun l hl j hj => absurd hj (Nat.not_lt_zero j)⟩
      · exact lp3
      · intro t3 ⟨ft3, g3⟩
        refine B284_92 ⟨fun _ => ?_, fun z => absurd (by decide) z⟩
        obtain ⟨ρ, hρ⟩ : ∃ ρ, ρ = sI (sI t3 124 78 0) 124 79 0 := ⟨_, rfl⟩
        rw [← hρ]
        have fρ : Fr [124] t3 ρ := by rw [hρ]; exact (Fr.rfl.I (by simp)).I (by simp)
        have F : Fr [124, 140, 141, 142, 143, 144, 147] σ ρ := (f0.mono (by intro x hx; simp at hx; simp; omega)).tr ((ft1.mono (by intro x hx; simp at hx; simp; omega)).tr ((ft2.mono (by intro x hx; simp at hx; simp; omega)).tr ((ft3.mono (by intro x hx; simp at hx; simp; omega)).tr (fρ.mono (by intro x hx; simp at hx; simp; omega)))))
        have er : ∀ x, x ≠ 124 → ρ.1 x = t3.1 x := fun x hx => (fρ x (by simp; exact hx)).1
        have e140 : ρ.1 140 = t1.1 140 := by rw [er 140 (by decide), (ft3 140 (by decide)).1, (ft2 140 (by decide)).1]
        have e147 : ρ.1 147 = t2.1 147 := by rw [er 147 (by decide), (ft3 147 (by decide)).1]
        have y0 : ∀ y, y ≠ 78 → y ≠ 79 → y ≠ 38 → ρ.1 124 y = σ.1 124 y := fun y a b c => by
          rw [hρ, sI_of _ _ (by omega), sI_of _ _ (by omega), (ft3 124 (by decide)).1, (ft2 124 (by decide)).1, (ft1 124 (by decide)).1, hτ, sI_of _ _ (by omega)]
        have e38 : ρ.1 124 38 = nI (bN X) := by
          rw [hρ, sI_of _ _ (by omega), sI_of _ _ (by omega), (ft3 124 (by decide)).1, (ft2 124 (by decide)).1, (ft1 124 (by decide)).1, hτ, sI_at]
        have ee : ∀ x, (x = 139 ∨ x = 145 ∨ x = 146 ∨ x = 148) → ρ.1 x = σ.1 x ∧ ρ.2.1 x = σ.2.1 x := fun x hx => ⟨(F x (by simp; omega)).1, (F x (by simp; omega)).2.1⟩
        have row : ∀ l, l < 4 → ∀ j, j < 16 → ρ.1 (141 + l) j = σ.1 (181 + l) (16 * i + j) := fun l hl j hj => by rw [er _ (by omega)]; exact g3 l hl j hj
        have bk : BkR (bN X) X ρ := by
          obtain ⟨⟨a1, a2, a3, a4⟩, ⟨b1, b2, b3, b4, b5, b6⟩, c1, c2, c3⟩ := h.2.1
          refine ⟨⟨by rw [y0 37 (by decide) (by decide) (by decide), m1]; exact a1, fun m hm => by rw [(ee 148 (by omega)).2, m2]; exact a2 m (by rw [← m1]; exact hm), fun m hm => by rw [(ee 139 (by omega)).1, m3]; exact a3 m (by rw [← m1]; exact hm), fun m hm => by rw [e147]; exact g2 m hm⟩, ⟨e38, fun c hc => ?_, fun c hc => ?_, fun c hc => ?_, fun c hc => ?_, fun c m hc hm => ?_⟩, by rw [y0 39 (by decide) (by decide) (by decide), m4]; exact c1, fun t ht => by rw [(ee 145 (by omega)).1, m5]; exact c2 t (by rw [← m4]; exact ht), fun t ht => by rw [(ee 146 (by omega)).1, m6]; exact c3 t (by rw [← m4]; exact ht)⟩
          · rw [row 0 (by omega) c (by omega)]; exact (u3 c hc).1
          · rw [row 1 (by omega) c (by omega)]; exact (u3 c hc).2.1
          · rw [row 2 (by omega) c (by omega)]; exact (u3 c hc).2.2.1
          · rw [row 3 (by omega) c (by omega)]; exact (u3 c hc).2.2.2
          · rw [e140, g1 _ (by omega)]; exact u4 c m hc hm
        obtain ⟨p, q⟩ := RR_set (lv := bN X) (B := X) (D := []) (U := []) h F (fun x hx => by simp at hx; omega) (fun y hy => y0 y (by omega) (by omega) (by omega)) bk m1 ⟨⟨by rw [hρ, sI_of _ _ (by omega), sI_at]; rfl, by rw [hρ, sI_at]; rfl⟩, True.intro, True.intro⟩
        rw [e38]
        exact K _ p q
      · intro k t hk ⟨ft, g⟩ ih
        have v1 := vp_in_nI (show k < 16 from hk) (by decide)
        have v2 := vp_in_nI (show 16 * i + k < 48 by omega) (by decide)
        have src : ∀ l, 181 ≤ l → l ≤ 184 → t.1 l = σ.1 l := fun l l1 l2 => by rw [(ft l (by simp; omega)).1, (ft2 l (by simp; omega)).1, (ft1 l (by simp; omega)).1, (f0 l (by simp; omega)).1]
        refine B284_92 ⟨fun z => absurd z (by rw [show (16 : Int32) = nI 16 from rfl, i_le' _ _ (by omega) (by omega)]; omega), fun _ => ?_⟩
        rw [show (16 : Int32) * nI i + nI k = nI (16 * i + k) from p96, nI_clamp (show k < 2147483648 by omega), nI_clamp (show 16 * i + k < 2147483648 by omega), nI_1]
        rw [sI_of _ _ (show ¬ (182 = 141 ∧ 16 * i + k = k) by omega), sI_of _ _ (show ¬ (183 = 142 ∧ 16 * i + k = k) by omega), sI_of _ _ (show ¬ (183 = 141 ∧ 16 * i + k = k) by omega), sI_of _ _ (show ¬ (184 = 143 ∧ 16 * i + k = k) by omega), sI_of _ _ (show ¬ (184 = 142 ∧ 16 * i + k = k) by omega), sI_of _ _ (show ¬ (184 = 141 ∧ 16 * i + k = k) by omega), src 181 (by omega) (by omega), src 182 (by omega) (by omega), src 183 (by omega) (by omega), src 184 (by omega) (by omega)]
        refine ⟨v2, v1, v2, v1, v2, v1, v2, v1, ih _ ⟨(((ft.I (by simp)).I (by simp)).I (by simp)).I (by simp), fun l hl j hj => ?_⟩⟩
        have gl := g l hl j
        rcases (show l = 0 ∨ l = 1 ∨ l = 2 ∨ l = 3 by omega) with w | w | w | w <;> subst w
        · rw [sI_of _ _ (by omega), sI_of _ _ (by omega), sI_of _ _ (by omega)]
          by_cases q : j = k
          · rw [q, sI_at]
          · rw [sI_of _ _ (by omega)]; exact gl (by omega)
        · rw [sI_of _ _ (by omega), sI_of _ _ (by omega)]
          by_cases q : j = k
          · rw [q, sI_at]
          · rw [sI_of _ _ (by omega), sI_of _ _ (by omega)]; exact gl (by omega)
        · rw [sI_of _ _ (by omega)]
          by_cases q : j = k
          · rw [q, sI_at]
          · rw [sI_of _ _ (by omega), sI_of _ _ (by omega), sI_of _ _ (by omega)]; exact gl (by omega)
        · by_cases q : j = k
          · rw [q, sI_at]
          · rw [sI_of _ _ (by omega), sI_of _ _ (by omega), sI_of _ _ (by omega), sI_of _ _ (by omega)]; exact gl (by omega)
    · intro k t hk ⟨ft, g⟩ ih
      have v1 := vp_in_nI (show k < 6 from hk) (by decide)
      have v2 := vp_in_nI (show 6 * i + k < 18 by omega) (by decide)
      have src : t.1 178 = σ.1 178 := by rw [(ft 178 (by decide)).1, (ft1 178 (by decide)).1, (f0 178 (by decide)).1]
      refine B284_61 ⟨fun z => absurd z (by rw [show (6 : Int32) = nI 6 from rfl, i_le' _ _ (by omega) (by omega)]; omega), fun _ => ?_⟩
      rw [show (6 : Int32) * nI i + nI k = nI (6 * i + k) from p96, nI_clamp (show k < 2147483648 by omega), nI_clamp (show 6 * i + k < 2147483648 by omega), nI_1, src, u1 k hk, bM0]
      refine ⟨v2, v1, ih _ ⟨ft.I (by simp), fun j hj => ?_⟩⟩
      by_cases q : j = k
      · rw [q, sI_at]
      · rw [sI_of _ _ (by omega)]; exact g j (by omega)
  · intro k t hk ⟨ft, g⟩ ih
    have v1 := vp_in_nI (show k < 96 from hk) (by decide)
    have v2 := vp_in_nI (show 96 * i + k < 288 by omega) (by decide)
    have src : t.1 180 = σ.1 180 := by rw [(ft 180 (by decide)).1, (f0 180 (by decide)).1]
    refine B284_30 ⟨fun z => absurd z (by rw [show (96 : Int32) = nI 96 from rfl, i_le' _ _ (by omega) (by omega)]; omega), fun _ => ?_⟩
    rw [show (96 : Int32) * nI i + nI k = nI (96 * i + k) from p96, nI_clamp (show k < 2147483648 by omega), nI_clamp (show 96 * i + k < 2147483648 by omega), nI_1, src]
    refine ⟨v2, v1, ih _ ⟨ft.I (by simp), fun j hj => ?_⟩⟩
    by_cases q : j = k
    · rw [q, sI_at]
    · rw [sI_of _ _ (by omega)]; exact g j (by omega)
theorem k277 {x1 x2 x3 x4 : Int32} (h : RR s σ) (ok : OkS s) (K : ∀ σ', CR σ σ' → RR (stCm s x1 x2 x3 x4) σ' → Q (some (.int (qCm s x1 x2 x3 x4))) σ') : Cm Θ (d + 1) 277 [.ref 124, .int x1, .int x2, .int x3, .int x4] σ Q := by
  have h16 := bk16 ok
  have hkB := ok.2.1.1
  have hm := bm6 hkB
  have hlv : bN s.B ≤ s.lv := by have := hkB.2.1; omega
  have hl60 := ok.2.2.2.1.1
  have l0 : x2 < 0 ↔ x2.toInt < 0 := i_lt
  have l9 : (99 : Int32) < x2 ↔ 99 < x2.toInt := i_lt
  have l1 : x4 < 1 ↔ x4.toInt < 1 := i_lt
  have l4 : (4 : Int32) < x4 ↔ 4 < x4.toInt := i_lt
  unfold stCm qCm at K
  have bad : cmB s x1 x2 x3 x4 = false → Q (some (.int (-1))) σ := fun q => by rw [q] at K; exact K σ cR_rfl h
  have f99 : (x2.toInt < 0 ∨ 99 < x2.toInt) → dP (isN x2 100) = false := fun q => by
    cases hx : dP (isN x2 100)
    · rfl
    · have := x099.mp hx; omega
  have l16 : nI (bN s.B) = 16 ↔ bN s.B = 16 := by rw [show (16 : Int32) = nI 16 from rfl]; exact nI_eq (by omega) (by omega)
  refine K277 (B277_0 (c241 ⟨_, rfl, fun z => bad (by rw [b01_0] at z; unfold cmB; rw [z]; rfl), fun z => ?_⟩))
  rw [l0, l9]
  refine ⟨fun y => bad (by unfold cmB; rw [f99 (Or.inl y)]; simp), fun y => ⟨fun y' => bad (by unfold cmB; rw [f99 (Or.inr y')]; simp), fun y' => c248 ⟨_, rfl, fun w => bad (by rw [b01_0] at w; unfold cmB; rw [w]; simp), fun w => ?_⟩⟩⟩
  rw [l1, l4, h.2.1.2.1.1, l16]
  refine ⟨fun u => bad (by unfold cmB; rw [decide_eq_false (p := 1 ≤ x4.toInt ∧ x4.toInt ≤ 4) (by omega)]; simp), fun u => ⟨fun u' => bad (by unfold cmB; rw [decide_eq_false (p := 1 ≤ x4.toInt ∧ x4.toInt ≤ 4) (by omega)]; simp), fun u' => ⟨fun v => ?_, fun v => bad (by unfold cmB; rw [decide_eq_false (p := bN s.B < 16) (by omega)]; simp)⟩⟩⟩
  rw [b01_n] at z w
  have et : cmB s x1 x2 x3 x4 = true := by
    unfold cmB; rw [z, x099.mpr (by omega), w, decide_eq_true (p := 1 ≤ x4.toInt ∧ x4.toInt ≤ 4) (by omega), decide_eq_true (p := bN s.B < 16) (by omega)]; rfl
  obtain ⟨j, yy, g, ww, hv, hN, e1, e2, e3, e4⟩ := cmB_ex et
  rw [if_pos et, if_pos et, e1, e2, e3, e4, nI_clamp (by omega), nI_clamp (by omega), nI_clamp (by omega), nI_clamp (by omega)] at K
  rw [e1, e2, e3, e4]
  have i_le' : ∀ x y : Nat, x < 1000000 → y < 1000000 → (nI x ≤ nI y ↔ x ≤ y) := fun x y hx hy => by rw [i_le, nI_int (by omega), nI_int (by omega)]; omega
  obtain ⟨N, hNd⟩ : ∃ N, N = bN s.B := ⟨_, rfl⟩
  have e38 : σ.1 124 38 = nI N := by rw [hNd]; exact h.2.1.2.1.1
  rw [← hNd] at hN
  have lp := loopS (α := Mem) (I := fun k t => Fr [140] σ t ∧ (∀ i, i < k → i < bM s.B → t.1 140 (6 * N + i) = nI (s.nw i)) ∧ ∀ q, q < 6 * N → t.1 140 q = σ.1 140 q) (P := fun k t => G Θ (d + 1) 277 50 [some (.ref 124), some (.int (nI j)), some (.int (nI yy)), some (.int (nI g)), some (.int (nI ww)), some (.int (nI k))] [] t Q) 6 ?_ ?_ σ ⟨Fr.rfl, fun i hi => absurd hi (Nat.not_lt_zero i), fun _ _ => rfl⟩
  · exact lp
  · intro t ⟨ft, t1, t2⟩
    have e0 : t.1 124 38 = nI N := by rw [(ft 124 (by decide)).1]; exact e38
    have vN := vp_in_nI (show N < 16 from hN) (by decide)
    have e2' : ∀ τ l i x, l ≠ 124 → (sI τ l i x).1 124 38 = τ.1 124 38 := fun τ l i x hl => sI_of _ _ (by omega)
    refine B277_50 ⟨fun _ => ?_, fun z => absurd (by decide) z⟩
    rw [e2' _ 141 _ _ (by decide), e2' _ 142 _ _ (by decide), e2' _ 141 _ _ (by decide), e2' _ 143 _ _ (by decide), e2' _ 142 _ _ (by decide), e2' _ 141 _ _ (by decide), e2' _ 144 _ _ (by decide), e2' _ 143 _ _ (by decide), e2' _ 142 _ _ (by decide), e2' _ 141 _ _ (by decide), e0, nI_clamp (by omega)]
    obtain ⟨τ, hτ⟩ : ∃ τ, τ = sI (sI (sI (sI t 141 N (nI j)) 142 N (nI yy)) 143 N (nI g)) 144 N (nI ww) := ⟨_, rfl⟩
    rw [← hτ]
    have fτ : Fr [141, 142, 143, 144] t τ := by rw [hτ]; exact (((Fr.rfl.I (by simp)).I (by simp)).I (by simp)).I (by simp)
    have F1 : Fr [140, 141, 142, 143, 144] σ τ := (ft.mono (by intro x hx; simp at hx; simp; omega)).tr (fτ.mono (by intro x hx; simp at hx; simp; omega))
    have acτ : AcR s.D s.U τ := AcR_eq (by rw [(F1 124 (by decide)).1]) (by rw [(F1 124 (by decide)).1]) (F1 174 (by decide)).1 (F1 175 (by decide)).1 (F1 176 (by decide)).1 h.2.2.2.2.1
    refine ⟨vN, vN, vN, vN, k275 (a := (0, N, 0, 0)) (v := 0) acτ (by omega) (fun q => absurd (show (0 : Nat) = 2 from q) (by decide)) fun s1 f1 y1 a1 => ⟨rfl, ?_⟩⟩
    have e3' : s1.1 124 38 = nI N := by rw [y1 38 (by decide) (by decide), (F1 124 (by decide)).1]; exact e38
    try dsimp only
    rw [e3', nI_1, sI_at, show nI (N + 1) - 1 = nI N by rw [show (1 : Int32) = nI 1 from rfl, pk_sub (by omega), Nat.add_sub_cancel]]
    have F : Fr [124, 140, 141, 142, 143, 144, 174, 175, 176] σ (sI s1 124 38 (nI (N + 1))) := ((F1.mono (by intro x hx; simp at hx; simp; omega)).tr (f1.mono (by intro x hx; simp at hx; simp; omega))).I (by simp)
    have row : ∀ l, 141 ≤ l → l ≤ 144 → ∀ c, (sI s1 124 38 (nI (N + 1))).1 l c = if c = N then (if l = 141 then nI j else if l = 142 then nI yy else if l = 143 then nI g else nI ww) else σ.1 l c := fun l l1 l2 c => by
      rw [sI_ne (by omega), (f1 l (by simp; omega)).1, hτ]
      have tl : t.1 l = σ.1 l := (ft l (by simp; omega)).1
      rcases (show l = 141 ∨ l = 142 ∨ l = 143 ∨ l = 144 by omega) with q | q | q | q <;> subst q
      · rw [sI_of _ _ (by omega), sI_of _ _ (by omega), sI_of _ _ (by omega)]
        by_cases w : c = N
        · rw [w, sI_at]; simp
        · rw [sI_of _ _ (by omega), tl, if_neg w]
      · rw [sI_of _ _ (by omega), sI_of _ _ (by omega)]
        by_cases w : c = N
        · rw [w, sI_at]; simp
        · rw [sI_of _ _ (by omega), sI_of _ _ (by omega), tl, if_neg w]
      · rw [sI_of _ _ (by omega)]
        by_cases w : c = N
        · rw [w, sI_at]; simp
        · rw [sI_of _ _ (by omega), sI_of _ _ (by omega), sI_of _ _ (by omega), tl, if_neg w]
      · by_cases w : c = N
        · rw [w, sI_at]; simp
        · rw [sI_of _ _ (by omega), sI_of _ _ (by omega), sI_of _ _ (by omega), sI_of _ _ (by omega), tl, if_neg w]
    have r140 : (sI s1 124 38 (nI (N + 1))).1 140 = t.1 140 := by rw [sI_ne (by decide), (f1 140 (by decide)).1, (fτ 140 (by decide)).1]
    have bk : BkR (N + 1) (setN (putC s.B N j yy g ww s.nw) (N + 1)) (sI s1 124 38 (nI (N + 1))) := by
      obtain ⟨⟨a1, a2, a3, a4⟩, ⟨b1, b2, b3, b4, b5, b6⟩, c1, c2, c3⟩ := h.2.1
      have ee : ∀ x, (x = 139 ∨ x = 145 ∨ x = 146 ∨ x = 147 ∨ x = 148) → (sI s1 124 38 (nI (N + 1))).1 x = σ.1 x ∧ (sI s1 124 38 (nI (N + 1))).2.1 x = σ.2.1 x := fun x hx => ⟨(F x (by simp; omega)).1, (F x (by simp; omega)).2.1⟩
      have y0 : ∀ y, y ≠ 78 → y ≠ 79 → y ≠ 38 → (sI s1 124 38 (nI (N + 1))).1 124 y = σ.1 124 y := fun y a b c => by rw [sI_of _ _ (by omega), y1 y a b, (F1 124 (by decide)).1]
      refine ⟨⟨by rw [y0 37 (by decide) (by decide) (by decide)]; exact a1, fun m hm' => by rw [(ee 148 (by omega)).2]; exact a2 m hm', fun m hm' => by rw [(ee 139 (by omega)).1]; exact a3 m hm', fun m hm' => by rw [(ee 147 (by omega)).1]; exact a4 m hm'⟩, ⟨sI_at _ _ _ _, fun c hc => ?_, fun c hc => ?_, fun c hc => ?_, fun c hc => ?_, fun c m hc hm' => ?_⟩, by rw [y0 39 (by decide) (by decide) (by decide)]; exact c1, fun m hm' => by rw [(ee 145 (by omega)).1]; exact c2 m hm', fun m hm' => by rw [(ee 146 (by omega)).1]; exact c3 m hm'⟩
      · rw [row 141 (by omega) (by omega)]
        show _ = nI (upN (bJ s.B) N j c)
        by_cases q : c = N
        · rw [if_pos q, q, upN_at]; rfl
        · rw [if_neg q, upN_ne q]; exact b2 c (by omega)
      · rw [row 142 (by omega) (by omega)]
        show _ = nI (upN (bY s.B) N yy c)
        by_cases q : c = N
        · rw [if_pos q, q, upN_at]; rfl
        · rw [if_neg q, upN_ne q]; exact b3 c (by omega)
      · rw [row 143 (by omega) (by omega)]
        show _ = nI (upN (bG s.B) N g c)
        by_cases q : c = N
        · rw [if_pos q, q, upN_at]; rfl
        · rw [if_neg q, upN_ne q]; exact b4 c (by omega)
      · rw [row 144 (by omega) (by omega)]
        show _ = nI (upN (bW s.B) N ww c)
        by_cases q : c = N
        · rw [if_pos q, q, upN_at]; rfl
        · rw [if_neg q, upN_ne q]; exact b5 c (by omega)
      · rw [r140]
        show _ = nI (if c = N then s.nw m else bS s.B c m)
        have hm' : m < bM s.B := hm'
        by_cases q : c = N
        · rw [if_pos q, q]; exact t1 m (by omega) hm'
        · rw [if_neg q, t2 _ (by omega)]; exact b6 c m (by omega) hm'
    obtain ⟨p, q⟩ := RR_set (lv := N + 1) (B := setN (putC s.B N j yy g ww s.nw) (N + 1)) (D := psh s.D (0, N, 0, 0)) (U := []) h F (fun x hx => by simp at hx; omega) (fun y hy => by rw [sI_of _ _ (by omega), y1 y (by omega) (by omega), (F1 124 (by decide)).1]) bk rfl (AcR_eq (sI_of _ _ (by omega)) (sI_of _ _ (by omega)) (sI_ne (by decide)) (sI_ne (by decide)) (sI_ne (by decide)) a1)
    rw [← hNd] at K
    exact K _ p (by unfold stA stP; rw [← hNd]; exact q)
  · intro k t hk ⟨ft, t1, t2⟩ ih
    have v1 := vp_in_nI (show k < 6 from hk) (by decide)
    have v2 := vp_in_nI (show 6 * N + k < 96 by omega) (by decide)
    have e0 : t.1 124 = σ.1 124 := (ft 124 (by decide)).1
    refine B277_50 ⟨fun z => absurd z (by rw [show (6 : Int32) = nI 6 from rfl, i_le' _ _ (by omega) (by omega)]; omega), fun _ => ?_⟩
    rw [e0, e38, h.2.1.1.1, i_le' _ _ (by omega) (by omega), show (6 : Int32) * nI N + nI k = nI (6 * N + k) from p96, nI_clamp (show k < 2147483648 by omega), nI_clamp (show 6 * N + k < 2147483648 by omega), nI_1]
    refine ⟨fun z => ⟨v2, ih _ ⟨ft.I (by simp), fun i hi hi' => ?_, fun q hq => ?_⟩⟩, fun z => ⟨v1, v2, ih _ ⟨ft.I (by simp), fun i hi hi' => ?_, fun q hq => ?_⟩⟩⟩
    · rw [sI_of _ _ (by omega)]; exact t1 i (by omega) hi'
    · rw [sI_of _ _ (by omega)]; exact t2 q hq
    · by_cases w' : i = k
      · rw [w', sI_at, (ft 173 (by decide)).1]; exact h.2.2.1 k (by omega)
      · rw [sI_of _ _ (by omega)]; exact t1 i (by omega) hi'
    · rw [sI_of _ _ (by omega)]; exact t2 q hq
end rback
