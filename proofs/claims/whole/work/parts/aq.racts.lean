/-! THE CALLS: acts, the reference -/
section racts
variable {Θ : Th} {d : Nat} {σ : Mem} {Q : Po} {s : St}
theorem rwDR_get {σ σ' : Mem} {n : Nat} (e : ∀ l, 174 ≤ l → l ≤ 176 → ∀ i, i < n → σ'.1 l i = σ.1 l i) : ∀ {D : List Ac}, D.length ≤ n → rwDR D σ → rwDR D σ'
  | [], _, _ => True.intro
  | a :: t, hl, h => by
    rw [List.length_cons] at hl
    exact ⟨by rw [e 174 (by omega) (by omega) _ (by omega), e 175 (by omega) (by omega) _ (by omega), e 176 (by omega) (by omega) _ (by omega)]; exact h.1, rwDR_get e (by omega) h.2⟩
theorem rwDR_shift {σ σ' : Mem} (e : ∀ l, 174 ≤ l → l ≤ 176 → ∀ i, i < 59 → σ'.1 l i = σ.1 l (i + 1)) : ∀ {D : List Ac}, D.length ≤ 60 → rwDR D σ → rwDR D.dropLast σ'
  | [], _, _ => True.intro
  | [_], _, _ => True.intro
  | a :: b :: t, hl, h => by
    rw [List.length_cons, List.length_cons] at hl
    show rwDR (a :: (b :: t).dropLast) σ'
    have hh := h.1
    have el : (b :: t).dropLast.length = t.length := by rw [List.length_dropLast, List.length_cons]; omega
    have el2 : (b :: t).length = t.length + 1 := rfl
    rw [el2] at hh
    refine ⟨?_, rwDR_shift e (by rw [List.length_cons]; omega) h.2⟩
    rw [el, e 174 (by omega) (by omega) _ (by omega), e 175 (by omega) (by omega) _ (by omega), e 176 (by omega) (by omega) _ (by omega)]
    exact hh
theorem rwUR_get {σ σ' : Mem} {n : Nat} (e : ∀ l, 174 ≤ l → l ≤ 176 → ∀ i, n ≤ i → σ'.1 l i = σ.1 l i) : ∀ {U : List Ac} {k : Nat}, n ≤ k → rwUR k U σ → rwUR k U σ'
  | [], _, _, _ => True.intro
  | a :: t, k, hk, h => ⟨by rw [e 174 (by omega) (by omega) _ (by omega), e 175 (by omega) (by omega) _ (by omega), e 176 (by omega) (by omega) _ (by omega)]; exact h.1, rwUR_get e (by omega) h.2⟩
theorem k275w {D : List Ac} {a : Ac} {m : Nat} {v : Int32} (hm : m < 60) (hD : D.length = m) (hrw : rwDR D σ) (hv : a.1 = 2 → v = nI a.2.2.1) (K : ∀ σ', Fr [124, 174, 175, 176] σ σ' → (∀ y, y ≠ 78 → y ≠ 79 → σ'.1 124 y = σ.1 124 y) → AcR (a :: D) [] σ' → Q none σ') :
    Q none (sI (sI (sI (sI (sI σ 174 m (nI a.1)) 175 m (nI a.2.1)) 176 m v) 124 78 (nI (m + 1))) 124 79 0) := by
  refine K _ (((((Fr.rfl.I (by simp)).I (by simp)).I (by simp)).I (by simp)).I (by simp)) (fun y h1 h2 => by rw [sI_of _ _ (by omega), sI_of _ _ (by omega), sI_of _ _ (by omega), sI_of _ _ (by omega), sI_of _ _ (by omega)]) ⟨⟨?_, ?_⟩, ⟨?_, rwDR_get (n := m) (fun l h1 h2 i hi => ?_) (by omega) hrw⟩, True.intro⟩
  · rw [sI_of _ _ (by omega), sI_at, List.length_cons, hD]
  · rw [sI_at]; rfl
  · rw [hD]
    refine ⟨?_, ?_, fun q => ?_⟩
    · rw [sI_of _ _ (by omega), sI_of _ _ (by omega), sI_of _ _ (by omega), sI_of _ _ (by omega), sI_at]
    · rw [sI_of _ _ (by omega), sI_of _ _ (by omega), sI_of _ _ (by omega), sI_at]
    · rw [sI_of _ _ (by omega), sI_of _ _ (by omega), sI_at]; exact hv q
  · rw [sI_of _ _ (by omega), sI_of _ _ (by omega), sI_of _ _ (by omega), sI_of _ _ (by omega), sI_of _ _ (by omega)]
theorem k275 {D U : List Ac} {a : Ac} {v : Int32} (h : AcR D U σ) (hl : D.length ≤ 60) (hv : a.1 = 2 → v = nI a.2.2.1) (K : ∀ σ', Fr [124, 174, 175, 176] σ σ' → (∀ y, y ≠ 78 → y ≠ 79 → σ'.1 124 y = σ.1 124 y) → AcR (psh D a) [] σ' → Q none σ') : Cm Θ d 275 [.ref 124, .int (nI a.1), .int (nI a.2.1), .int v] σ Q := by
  obtain ⟨⟨h0, h1⟩, hd, hu⟩ := h
  have e2 : ∀ τ l i x, l ≠ 124 → (sI τ l i x).1 124 78 = τ.1 124 78 := fun τ l i x hl => sI_of _ _ (by omega)
  refine K275 (B275_0 ⟨fun q => ?_, fun q => ?_⟩)
  · have hm : D.length < 60 := by
      rcases Nat.lt_or_ge D.length 60 with w | w
      · exact w
      · exact absurd (by rw [h0, show D.length = 60 by omega]; rfl) q
    have e : psh D a = a :: D := by unfold psh; rw [if_neg (by omega)]
    rw [e] at K
    have vt := vp_in_nI (show D.length < 60 from hm) (by decide)
    rw [e2 _ 174 _ _ (by decide), e2 _ 175 _ _ (by decide), e2 _ 174 _ _ (by decide), e2 _ 176 _ _ (by decide), e2 _ 175 _ _ (by decide), e2 _ 174 _ _ (by decide), h0, nI_clamp (by omega), nI_1]
    exact ⟨vt, vt, vt, k275w hm rfl hd hv K⟩
  · have hm : D.length = 60 := by
      rw [h0] at q
      have := congrArg Int32.toInt q
      rw [nI_int (by omega)] at this
      have e : (60 : Int32).toInt = 60 := by decide
      omega
    have e : psh D a = a :: D.dropLast := by unfold psh; rw [if_pos hm]
    rw [e] at K
    have lp := loopS (α := Mem) (I := fun j t => Fr [174, 175, 176] σ t ∧ ∀ l, 174 ≤ l → l ≤ 176 → (∀ i, i < j → t.1 l i = σ.1 l (i + 1)) ∧ ∀ i, j ≤ i → t.1 l i = σ.1 l i) (P := fun j t => G Θ d 275 12 [some (.ref 124), some (.int (nI a.1)), some (.int (nI a.2.1)), some (.int v), some (.int (nI (j + 1)))] [] t Q) 59 ?_ ?_ σ ⟨Fr.rfl, fun l _ _ => ⟨fun i hi => absurd hi (Nat.not_lt_zero i), fun i _ => rfl⟩⟩
    · exact lp
    · intro t ⟨ft, ht⟩
      have g0 : t.1 124 78 = nI 60 := by rw [(ft 124 (by decide)).1, h0, hm]
      have e59 : nI 60 - 1 = nI 59 := by decide
      have g1 : (sI t 124 78 (nI 59)).1 124 78 = nI 59 := sI_at _ _ _ _
      have vt : vp_in (nI 59) 60 := vp_in_nI (by omega) (by decide)
      refine B275_12 ⟨fun _ => ?_, fun z => absurd (by decide) z⟩
      rw [g0, e59, e2 _ 174 _ _ (by decide), e2 _ 175 _ _ (by decide), e2 _ 174 _ _ (by decide), e2 _ 176 _ _ (by decide), e2 _ 175 _ _ (by decide), e2 _ 174 _ _ (by decide), g1, nI_clamp (by omega), nI_1]
      refine ⟨vt, vt, vt, ?_⟩
      have hl2 : D.dropLast.length = 59 := by rw [List.length_dropLast, hm]
      have hd2 := rwDR_shift (σ' := t) (fun l l1 l2 i hi => (ht l l1 l2).1 i hi) hl hd
      have F : Fr [124, 174, 175, 176] σ (sI t 124 78 (nI 59)) := (ft.mono (by intro x hx; simp at hx; simp; omega)).I (by simp)
      refine k275w (m := 59) (by omega) hl2 (rwDR_get (n := 60) (fun l l1 l2 i hi => by rw [sI_of _ _ (by omega)]) (by omega) hd2) hv fun σ' f' y' c' => K σ' (F.tr f') (fun y h1 h2 => ?_) c'
      rw [y' y h1 h2, sI_of _ _ (by omega), (ft 124 (by decide)).1]
    · intro j t hj ⟨ft, ht⟩ ih
      have v1 := vp_in_nI (show j + 1 < 60 by omega) (by decide)
      have v2 := vp_in_nI (show j < 60 by omega) (by decide)
      have em : nI (j + 1) - 1 = nI j := by rw [show (1 : Int32) = nI 1 from rfl, pk_sub (by omega), Nat.add_sub_cancel]
      have l60 : ¬ (60 : Int32) ≤ nI (j + 1) := by
        rw [show (60 : Int32) = nI 60 from rfl, (mv_le (by omega) (by omega)).1]; omega
      refine B275_12 ⟨fun z => absurd z l60, fun _ => ?_⟩
      rw [em, nI_clamp (by omega), nI_clamp (by omega), nI_1]
      refine ⟨v1, v2, v1, v2, v1, v2, ih _ ⟨((ft.I (by simp)).I (by simp)).I (by simp), fun l l1 l2 => ⟨fun i hi => ?_, fun i hi => ?_⟩⟩⟩
      · rcases (show l = 174 ∨ l = 175 ∨ l = 176 by omega) with w | w | w <;> subst w
        · by_cases q : i = j
          · rw [q, sI_of _ _ (by omega), sI_of _ _ (by omega), sI_at]; exact (ht 174 l1 l2).2 _ (by omega)
          · rw [sI_of _ _ (by omega), sI_of _ _ (by omega), sI_of _ _ (by omega)]; exact (ht 174 l1 l2).1 i (by omega)
        · by_cases q : i = j
          · rw [q, sI_of _ _ (by omega), sI_at, sI_of _ _ (by omega)]; exact (ht 175 l1 l2).2 _ (by omega)
          · rw [sI_of _ _ (by omega), sI_of _ _ (by omega), sI_of _ _ (by omega)]; exact (ht 175 l1 l2).1 i (by omega)
        · by_cases q : i = j
          · rw [q, sI_at, sI_of _ _ (by omega), sI_of _ _ (by omega)]; exact (ht 176 l1 l2).2 _ (by omega)
          · rw [sI_of _ _ (by omega), sI_of _ _ (by omega), sI_of _ _ (by omega)]; exact (ht 176 l1 l2).1 i (by omega)
      · rw [sI_of _ _ (by omega), sI_of _ _ (by omega), sI_of _ _ (by omega)]; exact (ht l l1 l2).2 i (by omega)
theorem RR_set {lv : Nat} {B : Bk} {D U : List Ac} {σ' : Mem} {ls : List Nat} (h : RR s σ) (f : Fr ls σ σ') (hl : ∀ x, x ∈ ls → x = 124 ∨ (126 ≤ x ∧ x ≤ 165) ∨ (171 ≤ x ∧ x ≤ 172) ∨ (174 ≤ x ∧ x ≤ 176)) (e : ∀ y, y = 1 ∨ y = 2 ∨ y = 3 ∨ y = 70 → σ'.1 124 y = σ.1 124 y) (bk : BkR lv B σ') (hM : bM B = bM s.B) (ac : AcR D U σ') : CR σ σ' ∧ RR (stQ s B lv D U) σ' := by
  obtain ⟨⟨⟨h1, h2⟩, h3, h4⟩, h5, h6, h7, h8, h9⟩ := h
  have g : ∀ x, x ≠ 124 → (x = 125 ∨ (166 ≤ x ∧ x ≤ 170) ∨ x = 173 ∨ 177 ≤ x) → σ'.1 x = σ.1 x := fun x a b => (f x (fun q => by have := hl x q; omega)).1
  refine ⟨cR_fr f fun x hx => by have := hl x hx; omega, ⟨⟨by rw [e 1 (by omega)]; exact h1, by rw [g 125 (by decide) (by omega)]; exact h2⟩, by rw [e 2 (by omega)]; exact h3, by rw [e 3 (by omega)]; exact h4⟩, bk, fun m hm => ?_, LwF_eq (fun j a c => g j (by omega) (by omega)) (e 70 (by omega)) h7, ac, XR_eq (fun j a c => g j (by omega) (by omega)) h9⟩
  have hm : m < bM B := hm
  rw [g 173 (by decide) (by omega)]; exact h6 m (by rw [← hM]; exact hm)
/-- one book after one cell of it -/
theorem BkR_setN {lv c : Nat} {B : Bk} (h : BkR lv B σ) (K : Nat) (hK : K = c) : BkR lv (setN B c) (sI σ 124 38 (nI c)) := by
  obtain ⟨⟨a1, a2, a3, a4⟩, ⟨b1, b2, b3, b4, b5, b6⟩, c1, c2, c3⟩ := h
  have e : ∀ x, x ≠ 124 → (sI σ 124 38 (nI c)).1 x = σ.1 x := fun x hx => sI_ne hx
  unfold BkR rowI
  rw [sI_of _ _ (show ¬ (124 = 124 ∧ 37 = 38) by omega), sI_of _ _ (show ¬ (124 = 124 ∧ 39 = 38) by omega), sI_at, e 139 (by decide), e 140 (by decide), e 141 (by decide), e 142 (by decide), e 143 (by decide), e 144 (by decide), e 145 (by decide), e 146 (by decide), e 147 (by decide)]
  exact ⟨⟨a1, a2, a3, a4⟩, ⟨rfl, b2, b3, b4, b5, b6⟩, c1, c2, c3⟩
theorem BkR_setT {lv m : Nat} {b : Bool} {B : Bk} (h : BkR lv B σ) : BkR lv (setT B m b) (sI σ 147 m (b01 b)) := by
  obtain ⟨⟨a1, a2, a3, a4⟩, ⟨b1, b2, b3, b4, b5, b6⟩, c1, c2, c3⟩ := h
  have e : ∀ x, x ≠ 147 → (sI σ 147 m (b01 b)).1 x = σ.1 x := fun x hx => sI_ne hx
  unfold BkR rowI
  rw [e 124 (by decide), e 139 (by decide), e 140 (by decide), e 141 (by decide), e 142 (by decide), e 143 (by decide), e 144 (by decide), e 145 (by decide), e 146 (by decide)]
  refine ⟨⟨a1, a2, a3, fun j hj => ?_⟩, ⟨b1, b2, b3, b4, b5, b6⟩, c1, c2, c3⟩
  show (sI σ 147 m (b01 b)).1 147 j = b01 (upN (bCt B) m b j)
  by_cases q : j = m
  · rw [q, sI_at, upN_at]
  · rw [sI_of _ _ (by omega), upN_ne q]; exact a4 j hj
theorem BkR_setG {lv c g : Nat} {B : Bk} (h : BkR lv B σ) : BkR lv (setG B c g) (sI σ 143 c (nI g)) := by
  obtain ⟨⟨a1, a2, a3, a4⟩, ⟨b1, b2, b3, b4, b5, b6⟩, c1, c2, c3⟩ := h
  have e : ∀ x, x ≠ 143 → (sI σ 143 c (nI g)).1 x = σ.1 x := fun x hx => sI_ne hx
  unfold BkR rowI
  rw [e 124 (by decide), e 139 (by decide), e 140 (by decide), e 141 (by decide), e 142 (by decide), e 144 (by decide), e 145 (by decide), e 146 (by decide), e 147 (by decide)]
  refine ⟨⟨a1, a2, a3, a4⟩, ⟨b1, b2, b3, fun j hj => ?_, b5, b6⟩, c1, c2, c3⟩
  show (sI σ 143 c (nI g)).1 143 j = nI (upN (bG B) c g j)
  by_cases q : j = c
  · rw [q, sI_at, upN_at]
  · rw [sI_of _ _ (by omega), upN_ne q]; exact b4 j hj
theorem k279 {x1 x2 : Int32} (h : RR s σ) (ok : OkS s) (K : ∀ σ', CR σ σ' → RR (stGi s x1 x2) σ' → Q (some (.int (b01 (giB s x1 x2)))) σ') : Cm Θ (d + 1) 279 [.ref 124, .int x1, .int x2] σ Q := by
  have h16 := bk16 ok
  have hkB := ok.2.1.1
  have hlv : bN s.B ≤ s.lv := by have := hkB.2.1; omega
  have hl60 := ok.2.2.2.1.1
  unfold stGi at K
  have bad : giB s x1 x2 = false → Q (some (.int 0)) σ := fun q => by rw [q] at K; exact K σ cR_rfl h
  refine K279 (B279_0 (c200 h.2.1.2.1.1 (by omega) ⟨_, rfl, fun z => bad (by rw [b01_0] at z; unfold giB; rw [z]; rfl), fun z => c248 ⟨_, rfl, fun y => bad (by rw [b01_0] at y; unfold giB; rw [y]; simp), fun y => ?_⟩⟩))
  rw [b01_n] at z y
  obtain ⟨c, hc, e1⟩ := isN_ex (dP_iff.mp z) (by omega)
  obtain ⟨v, hv, e2⟩ := isN_ex (dP_iff.mp y) (by omega)
  have ev : giB s x1 x2 = decide (¬ nI (bG s.B c) = x2) := by unfold giB; rw [z, y, e1, nI_clamp (by omega)]; rfl
  have vc := vp_in_nI (show c < 16 by omega) (by decide)
  rw [e1, nI_clamp (by omega), h.2.1.2.1.2.2.2.1 c (by omega)]
  refine ⟨vc, fun w => ⟨vc, ?_⟩, fun w => bad (by rw [ev]; exact decide_eq_false (fun q => q w))⟩
  have et : giB s x1 x2 = true := by rw [ev]; exact decide_eq_true w
  rw [if_pos et, et, e1, e2, nI_clamp (by omega), nI_clamp (by omega)] at K
  rw [e2]
  refine k275 (a := (2, c, bG s.B c, v)) (v := nI (bG s.B c)) h.2.2.2.2.1 (by omega) (fun _ => rfl) fun s1 f1 y1 a1 => ⟨rfl, vc, ?_⟩
  have bk1 : BkR s.lv s.B s1 := BkR_eq (fun j a b => ⟨(f1 j (by simp; omega)).1, (f1 j (by simp; omega)).2.1⟩) (y1 37 (by decide) (by decide)) (y1 38 (by decide) (by decide)) (y1 39 (by decide) (by decide)) h.2.1
  have F : Fr [124, 143, 174, 175, 176] σ (sI s1 143 c (nI v)) := (f1.mono (by intro x hx; simp at hx; simp; omega)).I (by simp)
  obtain ⟨p, q⟩ := RR_set (lv := s.lv) (B := setG s.B c v) (D := psh s.D (2, c, bG s.B c, v)) (U := []) h F (fun x hx => by simp at hx; omega) (fun y hy => by rw [sI_of _ _ (by omega)]; exact y1 y (by omega) (by omega)) (BkR_setG bk1) rfl (AcR_eq (sI_of _ _ (by omega)) (sI_of _ _ (by omega)) (sI_ne (by decide)) (sI_ne (by decide)) (sI_ne (by decide)) a1)
  exact K _ p q
theorem k278 {x1 : Int32} {b : Bool} (h : RR s σ) (ok : OkS s) (K : ∀ σ', CR σ σ' → RR (stCo s x1 b) σ' → Q (some (.int (b01 (coB s x1 b)))) σ') : Cm Θ (d + 2) 278 [.ref 124, .int x1, .int (b01 b)] σ Q := by
  have hkB := ok.2.1.1
  have hm := bm6 hkB
  have hl60 := ok.2.2.2.1.1
  unfold stCo at K
  have bad : coB s x1 b = false → Q (some (.int 0)) σ := fun q => by rw [q] at K; exact K σ cR_rfl h
  refine K278 (B278_0 (c201 h.2.1.1.1 (by omega) ⟨_, rfl, fun z => bad (by rw [b01_0] at z; unfold coB; rw [z]; rfl), fun z => ?_⟩))
  rw [b01_n] at z
  obtain ⟨m, hm', e1⟩ := isN_ex (dP_iff.mp z) (by omega)
  have bb : ∀ x y : Bool, b01 x = b01 y ↔ x = y := by decide
  have ev : coB s x1 b = (decide (¬ bCt s.B m = b) && decide (¬ 0 ≤ agP s.B (upN (bCt s.B) m b))) := by unfold coB; rw [z, e1, nI_clamp (by omega)]; rfl
  have vm := vp_in_nI (show m < 6 by omega) (by decide)
  rw [e1, nI_clamp (by omega), h.2.1.1.2.2.2 m (by omega), bb]
  refine ⟨vm, fun w => ro (c196 h.2.1 hkB) ?_, fun w => bad (by rw [ev, decide_eq_false (fun q => q w)]; rfl)⟩
  rw [sX_flip (by omega) w]
  refine c199 (d := d) h.2.1 hkB fun s1 f1 => ⟨_, rfl, ?_⟩
  have q1 := qR_fr f1 fun x hx => by simp at hx; omega
  have hR1 := RR_Q h q1.2
  refine ⟨fun y => ?_, fun y => ?_⟩
  · rw [b01_0, decide_eq_false_iff_not] at y
    have et : coB s x1 b = true := by rw [ev, decide_eq_true w, decide_eq_true y]; rfl
    rw [if_pos et, et, e1, nI_clamp (by omega)] at K
    refine k275 (a := (1, m, (if b = true then 0 else 1), (if b = true then 1 else 0))) (v := 0) hR1.2.2.2.2.1 (by omega) (fun q => absurd (show (1 : Nat) = 2 from q) (by decide)) fun s2 f2 y2 a2 => ⟨rfl, vm, ?_⟩
    have nb : vp_nar .boolean (b01 b) = b01 b := by cases b <;> decide
    rw [nb]
    have bk2 : BkR s.lv s.B s2 := BkR_eq (fun j a b => ⟨(f2 j (by simp; omega)).1, (f2 j (by simp; omega)).2.1⟩) (y2 37 (by decide) (by decide)) (y2 38 (by decide) (by decide)) (y2 39 (by decide) (by decide)) hR1.2.1
    have F : Fr [124, 147, 174, 175, 176] s1 (sI s2 147 m (b01 b)) := (f2.mono (by intro x hx; simp at hx; simp; omega)).I (by simp)
    obtain ⟨p, q⟩ := RR_set (lv := s.lv) (B := setT s.B m b) (D := psh s.D (1, m, (if b = true then 0 else 1), (if b = true then 1 else 0))) (U := []) hR1 F (fun x hx => by simp at hx; omega) (fun y hy => by rw [sI_of _ _ (by omega)]; exact y2 y (by omega) (by omega)) (BkR_setT bk2) rfl (AcR_eq (sI_of _ _ (by omega)) (sI_of _ _ (by omega)) (sI_ne (by decide)) (sI_ne (by decide)) (sI_ne (by decide)) a2)
    refine K _ (cR_tr q1.1 p) ?_
    have eb : decide ((if b = true then 1 else 0) = 1) = b := by cases b <;> rfl
    show RR (stQ s (setT s.B m (decide ((if b = true then 1 else 0) = 1))) s.lv _ []) _
    rw [eb]; exact q
  · rw [b01_n, decide_eq_true_eq] at y
    have ef : coB s x1 b = false := by rw [ev, decide_eq_false (p := ¬ 0 ≤ agP s.B (upN (bCt s.B) m b)) (fun q => q y), Bool.and_false]
    rw [ef] at K
    exact K s1 q1.1 hR1
end racts
