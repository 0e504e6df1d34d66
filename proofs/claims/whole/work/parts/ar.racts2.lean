/-! THE CALLS: come, undo, redo: the reference -/
section racts2
variable {Θ : Th} {d : Nat} {σ : Mem} {Q : Po} {s : St}
theorem bM0 {b : Bool} : vp_nar .boolean (b01 b) = b01 b := by cases b <;> decide
/-- one act turned: x = 0: back; else forth -/
theorem k276 {n k c v w : Nat} {x : Int32} {B : Bk} {lv : Nat} (hn : n < 60) (hB : BkR lv B σ) (hr : σ.1 174 n = nI k ∧ σ.1 175 n = nI c ∧ (k = 2 → σ.1 176 n = nI v))
    (hk : (k = 0 ∧ bN B = (if x = 0 then c + 1 else c) ∧ bN B ≤ 16) ∨ (k = 1 ∧ c < bM B ∧ bM B ≤ 6 ∧ v ≤ 1 ∧ bCt B c = decide (¬ v = 1)) ∨ (k = 2 ∧ c < bN B ∧ bN B ≤ lv ∧ lv ≤ 16 ∧ bG B c = w))
    (K : ∀ σ', Fr [124, 143, 147, 176] σ σ' → (∀ y, y ≠ 38 → σ'.1 124 y = σ.1 124 y) → (∀ i, i ≠ n → σ'.1 176 i = σ.1 176 i) → (k = 2 → σ'.1 176 n = nI w) → BkR lv (if k = 0 then setN B (if x = 0 then c else c + 1) else if k = 1 then setT B c (decide (v = 1)) else setG B c v) σ' → Q none σ') : Cm Θ d 276 [.ref 124, .int (nI n), .int x] σ Q := by
  obtain ⟨h1, h2, h3⟩ := hr
  have vn := vp_in_nI hn (by decide)
  have nk : ∀ a b : Nat, a < 10 → b < 10 → (nI a = nI b ↔ a = b) := fun a b ha hb => nI_eq (by omega) (by omega)
  refine K276 (B276_0 ⟨vn, fun z => ⟨vn, fun y => ?_, fun y => ?_⟩, fun z => ?_⟩)
  · rw [nI_clamp (by omega), h1] at z y
    rcases hk with ⟨hk, _⟩ | ⟨hk, _⟩ | ⟨hk, hc, hb, hl, hg⟩
    · exact absurd (by rw [hk]; rfl) z
    · exact absurd (by rw [hk]; rfl) y
    · have vc := vp_in_nI (show c < 16 by omega) (by decide)
      rw [nI_clamp (show n < 2147483648 by omega), h2, h3 hk, nI_clamp (by omega)]
      refine ⟨vn, vc, vn, vn, vc, vn, K _ ((Fr.rfl.I (by simp)).I (by simp)) (fun y' hy => by rw [sI_of _ _ (by omega), sI_of _ _ (by omega)]) (fun i hi => by rw [sI_of _ _ (by omega), sI_of _ _ (by omega)]) (fun _ => ?_) ?_⟩
      · rw [sI_at, hB.2.1.2.2.2.1 c (by omega), hg]
      · rw [if_neg (by omega), if_neg (by omega)]
        have := BkR_setG (c := c) (g := v) hB
        exact BkR_eq (fun j a b => ⟨sI_ne (by omega), rfl⟩) (sI_of _ _ (by omega)) (sI_of _ _ (by omega)) (sI_of _ _ (by omega)) this
  · rw [nI_clamp (by omega), h1] at y
    have hk1 : k = 1 := by
      rcases hk with ⟨hk, _⟩ | ⟨hk, _⟩ | ⟨hk, _⟩
      · rw [hk] at y; exact absurd y (by decide)
      · exact hk
      · rw [hk] at y; exact absurd y (by decide)
    rcases hk with ⟨hk, _⟩ | ⟨hk, hc, hb, hv, hct⟩ | ⟨hk, _⟩
    · omega
    · have vc := vp_in_nI (show c < 6 by omega) (by decide)
      rw [nI_clamp (show n < 2147483648 by omega), h2, nI_clamp (show c < 2147483648 by omega), hB.1.2.2.2 c (by omega), hct]
      have n0 : vp_nar .boolean 0 = b01 false := by decide
      have n1 : vp_nar .boolean 1 = b01 true := by decide
      refine ⟨vn, vn, vc, fun q => ⟨vc, ?_⟩, fun q => ⟨vc, ?_⟩⟩
      · rw [b01_n, decide_eq_true_eq] at q
        rw [n0]
        refine K _ (Fr.rfl.I (by simp)) (fun y' hy => sI_of _ _ (by omega)) (fun i hi => sI_of _ _ (by omega)) (fun w' => by omega) ?_
        rw [if_neg (by omega), if_pos hk1, decide_eq_false q]
        exact BkR_setT hB
      · rw [b01_0, decide_eq_false_iff_not, Decidable.not_not] at q
        rw [n1]
        refine K _ (Fr.rfl.I (by simp)) (fun y' hy => sI_of _ _ (by omega)) (fun i hi => sI_of _ _ (by omega)) (fun w' => by omega) ?_
        rw [if_neg (by omega), if_pos hk1, decide_eq_true q]
        exact BkR_setT hB
    · omega
  · rw [nI_clamp (by omega), h1] at z
    have hk0 : k = 0 := by
      rcases hk with ⟨hk, _⟩ | ⟨hk, _⟩ | ⟨hk, _⟩
      · exact hk
      · rw [hk] at z; exact absurd z (by decide)
      · rw [hk] at z; exact absurd z (by decide)
    rcases hk with ⟨hk, hb, hb'⟩ | ⟨hk, _⟩ | ⟨hk, _⟩
    · have e38 := hB.2.1.1
      refine ⟨fun q => ?_, fun q => ?_⟩
      · rw [if_pos q] at hb
        rw [e38, hb, nI_m1]
        refine K _ (Fr.rfl.I (by simp)) (fun y' hy => sI_of _ _ (by omega)) (fun i hi => sI_of _ _ (by omega)) (fun w' => by omega) ?_
        rw [if_pos hk0, if_pos q]; exact BkR_setN hB c rfl
      · rw [if_neg q] at hb
        rw [e38, hb, nI_1]
        refine K _ (Fr.rfl.I (by simp)) (fun y' hy => sI_of _ _ (by omega)) (fun i hi => sI_of _ _ (by omega)) (fun w' => by omega) ?_
        rw [if_pos hk0, if_neg q]; exact BkR_setN hB (c + 1) rfl
    · omega
    · omega
theorem k280 (h : RR s σ) (ok : OkS s) (K : ∀ σ', CR σ σ' → RR (stU s) σ' → Q (some (.int (b01 (unB s)))) σ') : Cm Θ (d + 1) 280 [.ref 124] σ Q := by
  have h16 := bk16 ok
  have hkB := ok.2.1.1
  have hm := bm6 hkB
  obtain ⟨hl, hd, hu⟩ := ok.2.2.2.1
  have ac := h.2.2.2.2.1
  unfold stU unB at K
  refine K280 (B280_0 ?_)
  cases hD : s.D with
  | nil =>
    rw [hD] at ac K
    have h0 : σ.1 124 78 = 0 := ac.1.1
    rw [h0]
    exact ⟨fun q => absurd rfl q, fun _ => K σ cR_rfl h⟩
  | cons a t =>
    rw [hD] at ac K hl hd
    rw [List.length_cons] at hl
    obtain ⟨⟨h0, h1⟩, ⟨g, ht⟩, hu'⟩ := ac
    rw [List.length_cons] at h0
    have e1 : nI (t.length + 1) - 1 = nI t.length := by rw [show (1 : Int32) = nI 1 from rfl, pk_sub (by omega), Nat.add_sub_cancel]
    have nz : ¬ nI (t.length + 1) = 0 := fun q => by
      have := congrArg Int32.toInt q
      rw [nI_int (by omega)] at this
      have e : (0 : Int32).toInt = 0 := by decide
      omega
    obtain ⟨k, c, v, w⟩ := a
    have ha : aftA s.n0 (k, c, v, w) s.B := hd.1
    rw [h0, e1, sI_of _ _ (show ¬ (124 = 124 ∧ 79 = 78) by omega), h1, nI_1, sI_of _ _ (show ¬ (124 = 124 ∧ 78 = 79) by omega), sI_at]
    refine ⟨fun _ => ?_, fun q => absurd q nz⟩
    obtain ⟨τ, hτ⟩ : ∃ τ, τ = sI (sI σ 124 78 (nI t.length)) 124 79 (nI (s.U.length + 1)) := ⟨_, rfl⟩
    rw [← hτ]
    have fτ : Fr [124] σ τ := by rw [hτ]; exact (Fr.rfl.I (by simp)).I (by simp)
    have y2 : ∀ y, y ≠ 78 → y ≠ 79 → τ.1 124 y = σ.1 124 y := fun y h1 h2 => by rw [hτ, sI_of _ _ (by omega), sI_of _ _ (by omega)]
    have e78 : τ.1 124 78 = nI t.length := by rw [hτ, sI_of _ _ (by omega), sI_at]
    have e79 : τ.1 124 79 = nI (s.U.length + 1) := by rw [hτ, sI_at]
    have er : ∀ x, x ≠ 124 → τ.1 x = σ.1 x := fun x hx => (fτ x (by simp; exact hx)).1
    have bk : BkR s.lv s.B τ := BkR_eq (fun j a b => ⟨er j (by omega), (fτ j (by simp; omega)).2.1⟩) (y2 37 (by decide) (by decide)) (y2 38 (by decide) (by decide)) (y2 39 (by decide) (by decide)) h.2.1
    refine k276 (k := k) (c := c) (v := v) (w := w) (B := s.B) (lv := s.lv) (by omega) bk ⟨by rw [er 174 (by decide)]; exact g.1, by rw [er 175 (by decide)]; exact g.2.1, fun q => by rw [er 176 (by decide)]; exact g.2.2 q⟩ ?_ fun σ' f' p1 p2 p3 bk' => ⟨rfl, ?_⟩
    · rcases ha with ⟨q1, q2, q3⟩ | ⟨q1, q2, q3, q4⟩ | ⟨q1, q2, q3, q4⟩
      · exact Or.inl ⟨q1, by rw [if_pos rfl]; exact q2, by omega⟩
      · have q2 : c < bM s.B := q2
        have q3 : v + w = 1 := q3
        have q4 : bCt s.B c = decide (w = 1) := q4
        exact Or.inr (Or.inl ⟨q1, q2, hm, by omega, by rw [q4]; congr 1; apply propext; omega⟩)
      · have q2 : c < bN s.B := q2
        exact Or.inr (Or.inr ⟨q1, q2, hkB.2.1.1, hkB.2.1.2, q4⟩)
    · have F : Fr [124, 143, 147, 176] σ σ' := (fτ.mono (by intro x hx; simp at hx; simp; omega)).tr f'
      have eb : bwA (k, c, v, w) s.B = (if k = 0 then setN s.B (if (0 : Int32) = 0 then c else c + 1) else if k = 1 then setT s.B c (decide (v = 1)) else setG s.B c v) := by
        rw [if_pos (show (0 : Int32) = 0 from rfl)]; rfl
      rw [← eb] at bk'
      have e174 : σ'.1 174 = σ.1 174 := (F 174 (by decide)).1
      have e175 : σ'.1 175 = σ.1 175 := (F 175 (by decide)).1
      have e176 : ∀ i, i ≠ t.length → σ'.1 176 i = σ.1 176 i := fun i hi => by rw [p2 i hi, er 176 (by decide)]
      have acn : AcR t ((k, c, v, w) :: s.U) σ' := by
        refine ⟨⟨by rw [p1 78 (by decide)]; exact e78, by rw [p1 79 (by decide), e79, List.length_cons]⟩, rwDR_get (n := t.length) (fun l l1 l2 i hi => ?_) (Nat.le_refl _) ht, ⟨by rw [e174]; exact g.1, by rw [e175]; exact g.2.1, fun q => p3 q⟩, rwUR_get (n := t.length + 1) (fun l l1 l2 i hi => ?_) (Nat.le_refl _) hu'⟩
        · rcases (show l = 174 ∨ l = 175 ∨ l = 176 by omega) with q | q | q <;> subst q
          · rw [e174]
          · rw [e175]
          · exact e176 i (by omega)
        · rcases (show l = 174 ∨ l = 175 ∨ l = 176 by omega) with q | q | q <;> subst q
          · rw [e174]
          · rw [e175]
          · exact e176 i (by omega)
      obtain ⟨p, q⟩ := RR_set (lv := s.lv) (B := bwA (k, c, v, w) s.B) (D := t) (U := (k, c, v, w) :: s.U) h F (fun x hx => by simp at hx; omega) (fun y hy => by rw [p1 y (by omega), y2 y (by omega) (by omega)]) bk' (bw_same _ _).1 acn
      exact K _ p q
theorem k281 (h : RR s σ) (ok : OkS s) (K : ∀ σ', CR σ σ' → RR (stR s) σ' → Q (some (.int (b01 (reB s)))) σ') : Cm Θ (d + 1) 281 [.ref 124] σ Q := by
  have h16 := bk16 ok
  have hkB := ok.2.1.1
  have hm := bm6 hkB
  obtain ⟨hl, hd, hu⟩ := ok.2.2.2.1
  have ac := h.2.2.2.2.1
  unfold stR reB at K
  refine K281 (B281_0 ?_)
  cases hU : s.U with
  | nil =>
    rw [hU] at ac K
    have h0 : σ.1 124 79 = 0 := ac.1.2
    rw [h0]
    exact ⟨fun q => absurd rfl q, fun _ => K σ cR_rfl h⟩
  | cons a t =>
    rw [hU] at ac K hl hu
    rw [List.length_cons] at hl
    obtain ⟨⟨h0, h1⟩, hd', ⟨g, hu'⟩⟩ := ac
    rw [List.length_cons] at h1
    have e1 : nI (t.length + 1) - 1 = nI t.length := by rw [show (1 : Int32) = nI 1 from rfl, pk_sub (by omega), Nat.add_sub_cancel]
    have nz : ¬ nI (t.length + 1) = 0 := fun q => by
      have := congrArg Int32.toInt q
      rw [nI_int (by omega)] at this
      have e : (0 : Int32).toInt = 0 := by decide
      omega
    obtain ⟨k, c, v, w⟩ := a
    have ha : preA s.n0 s.lv (k, c, v, w) s.B := hu.1
    rw [h0, h1]
    refine ⟨fun _ => ?_, fun q => absurd q nz⟩
    refine k276 (k := k) (c := c) (v := w) (w := v) (B := s.B) (lv := s.lv) (by omega) h.2.1 ⟨g.1, g.2.1, g.2.2⟩ ?_ fun σ' f' p1 p2 p3 bk' => ⟨rfl, ?_⟩
    · rcases ha with ⟨q1, q2, q3, q4⟩ | ⟨q1, q2, q3, q4⟩ | ⟨q1, q2, q3, q4⟩
      · exact Or.inl ⟨q1, by rw [if_neg (by decide)]; exact q2, by omega⟩
      · have q2 : c < bM s.B := q2
        have q3 : v + w = 1 := q3
        have q4 : bCt s.B c = decide (v = 1) := q4
        exact Or.inr (Or.inl ⟨q1, q2, hm, by omega, by rw [q4]; congr 1; apply propext; omega⟩)
      · have q2 : c < bN s.B := q2
        exact Or.inr (Or.inr ⟨q1, q2, hkB.2.1.1, hkB.2.1.2, q4⟩)
    · try dsimp only
      rw [p1 78 (by decide), h0, nI_1, sI_of _ _ (show ¬ (124 = 124 ∧ 79 = 78) by omega), p1 79 (by decide), h1, e1]
      obtain ⟨τ, hτ⟩ : ∃ τ, τ = sI (sI σ' 124 78 (nI (s.D.length + 1))) 124 79 (nI t.length) := ⟨_, rfl⟩
      rw [← hτ]
      have fτ : Fr [124] σ' τ := by rw [hτ]; exact (Fr.rfl.I (by simp)).I (by simp)
      have y2 : ∀ y, y ≠ 78 → y ≠ 79 → τ.1 124 y = σ'.1 124 y := fun y h1 h2 => by rw [hτ, sI_of _ _ (by omega), sI_of _ _ (by omega)]
      have er : ∀ x, x ≠ 124 → τ.1 x = σ'.1 x := fun x hx => (fτ x (by simp; exact hx)).1
      have F : Fr [124, 143, 147, 176] σ τ := f'.tr (fτ.mono (by intro x hx; simp at hx; simp; omega))
      have eb : fwA (k, c, v, w) s.B = (if k = 0 then setN s.B (if (1 : Int32) = 0 then c else c + 1) else if k = 1 then setT s.B c (decide (w = 1)) else setG s.B c w) := by
        rw [if_neg (show ¬ (1 : Int32) = 0 by decide)]; rfl
      rw [← eb] at bk'
      have bk2 : BkR s.lv (fwA (k, c, v, w) s.B) τ := BkR_eq (fun j a b => ⟨er j (by omega), (fτ j (by simp; omega)).2.1⟩) (y2 37 (by decide) (by decide)) (y2 38 (by decide) (by decide)) (y2 39 (by decide) (by decide)) bk'
      have e174 : τ.1 174 = σ.1 174 := (F 174 (by decide)).1
      have e175 : τ.1 175 = σ.1 175 := (F 175 (by decide)).1
      have e176 : ∀ i, i ≠ s.D.length → τ.1 176 i = σ.1 176 i := fun i hi => by rw [er 176 (by decide)]; exact p2 i hi
      have acn : AcR ((k, c, v, w) :: s.D) t τ := by
        refine ⟨⟨by rw [hτ, sI_of _ _ (by omega), sI_at, List.length_cons], by rw [hτ, sI_at]⟩, ⟨⟨by rw [e174]; exact g.1, by rw [e175]; exact g.2.1, fun q => by rw [er 176 (by decide)]; exact p3 q⟩, rwDR_get (n := s.D.length) (fun l l1 l2 i hi => ?_) (Nat.le_refl _) hd'⟩, rwUR_get (n := s.D.length + 1) (fun l l1 l2 i hi => ?_) (Nat.le_refl _) hu'⟩
        · rcases (show l = 174 ∨ l = 175 ∨ l = 176 by omega) with q | q | q <;> subst q
          · rw [e174]
          · rw [e175]
          · exact e176 i (by omega)
        · rcases (show l = 174 ∨ l = 175 ∨ l = 176 by omega) with q | q | q <;> subst q
          · rw [e174]
          · rw [e175]
          · exact e176 i (by omega)
      obtain ⟨p, q⟩ := RR_set (lv := s.lv) (B := fwA (k, c, v, w) s.B) (D := (k, c, v, w) :: s.D) (U := t) h F (fun x hx => by simp at hx; omega) (fun y hy => by rw [y2 y (by omega) (by omega), p1 y (by omega)]) bk2 (ap_same _ _ _ _).1 acn
      exact K _ p q
end racts2
