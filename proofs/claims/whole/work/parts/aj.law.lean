/-! THE CALLS: law, lawOf, moved, laws -/
def dsG (g a b : Nat) : Nat := if g < a then a - g else if b < g then g - b else 0
def lwS1 (B : Bk) (m f a b n : Nat) : Nat := cN n (fun c => decide (f ≤ bS B c m) && decide (0 < dsG (bG B c) a b))
def lwS2 (B : Bk) (m f a b n : Nat) : Nat := sN n (fun c => if f ≤ bS B c m then dsG (bG B c) a b else 0)
noncomputable def stB (B : Bk) (x1 x2 : Int32) : Bool := dP (isN x1 (bM B)) && decide (0 ≤ x2.toInt ∧ x2.toInt ≤ (bTp B x1.toNatClampNeg : Nat))
noncomputable def qLw (B : Bk) (x1 x2 x3 x4 x5 : Int32) : Int32 :=
  if stB B x1 x2 = true ∧ 0 ≤ x3.toInt ∧ x4.toInt ≤ 240 ∧ x3.toInt ≤ x4.toInt then
    (if x5 = 0 then nI (lwS1 B x1.toNatClampNeg x2.toNatClampNeg x3.toNatClampNeg x4.toNatClampNeg (bN B)) else if x5 = 1 then nI (lwS2 B x1.toNatClampNeg x2.toNatClampNeg x3.toNatClampNeg x4.toNatClampNeg (bN B)) else -1) else -1
theorem clamp_ex {x : Int32} (h : 0 ≤ x.toInt) : ∃ n : Nat, x.toInt = n ∧ x = nI n ∧ n < 2147483648 ∧ x.toNatClampNeg = n := by
  have := i32_hi x
  refine ⟨x.toInt.toNat, by omega, ?_, by omega, rfl⟩
  rw [iI_nI, show ((x.toInt.toNat : Nat) : Int) = x.toInt by omega, iI_of]
section ans7
variable {Θ : Th} {d : Nat} {σ : Mem} {Q : Po} {s : St}
theorem dsG_b {g a b : Nat} (hg : g ≤ 240) (ha : a ≤ 240) : dsG g a b ≤ 240 := by unfold dsG; split <;> (try split) <;> omega
theorem lw_st {B : Bk} {m f a b i : Nat} (hf : f ≤ bS B i m) : lwS1 B m f a b (i + 1) = lwS1 B m f a b i + (if 0 < dsG (bG B i) a b then 1 else 0) ∧ lwS2 B m f a b (i + 1) = lwS2 B m f a b i + dsG (bG B i) a b := by
  refine ⟨?_, ?_⟩
  · show lwS1 B m f a b i + (if (decide (f ≤ bS B i m) && decide (0 < dsG (bG B i) a b)) = true then 1 else 0) = _
    rw [decide_eq_true hf, Bool.true_and]
    by_cases q : 0 < dsG (bG B i) a b
    · rw [decide_eq_true q, if_pos q]; rfl
    · rw [decide_eq_false q, if_neg q]; rfl
  · show lwS2 B m f a b i + (if f ≤ bS B i m then dsG (bG B i) a b else 0) = _
    rw [if_pos hf]
theorem lw_sk {B : Bk} {m f a b i : Nat} (hf : ¬ f ≤ bS B i m) : lwS1 B m f a b (i + 1) = lwS1 B m f a b i ∧ lwS2 B m f a b (i + 1) = lwS2 B m f a b i := by
  refine ⟨?_, ?_⟩
  · show lwS1 B m f a b i + (if (decide (f ≤ bS B i m) && decide (0 < dsG (bG B i) a b)) = true then 1 else 0) = _
    rw [decide_eq_false hf, Bool.false_and]; rfl
  · show lwS2 B m f a b i + (if f ≤ bS B i m then dsG (bG B i) a b else 0) = _
    rw [if_neg hf]; rfl
theorem c13' {r : Nat} {x1 x2 : Int32} (hB : BkC r s.lv s.B σ) (ok : OkS s) (k : Q (some (.int (b01 (stB s.B x1 x2)))) σ) : Cm Θ (d + 1) 13 [.ref r, .int x1, .int x2] σ Q := by
  have r4 := hB.1
  have r3 := bk_s r4
  have hm := bm6 ok.2.1.1
  have hn := hB.2.1.1
  have l0 : x2 < 0 ↔ x2.toInt < 0 := i_lt
  unfold stB at k
  refine K13 (B13_0 r3 (c11' r3 hn (by omega) ⟨_, rfl, fun z => ?_, fun z => ?_⟩))
  · rw [b01_0] at z; rw [z] at k; exact k
  · rw [b01_n] at z
    obtain ⟨a, ha, e1⟩ := isN_ex (dP_iff.mp z) (by omega)
    have ht := (ok.2.1.1.2.2.1 a ha).2
    rw [l0, i_lt]
    rw [e1, nI_clamp (by omega)]
    rw [e1] at z
    rw [e1, z, nI_clamp (by omega)] at k
    rw [hB.2.1.2.2.1 a ha, nI_int (by omega)]
    refine ⟨fun w => ?_, fun w => ⟨vp_in_nI (by omega) (by decide), fun y => ?_, fun y => ?_⟩⟩
    · rw [decide_eq_false (by omega)] at k; exact k
    · rw [decide_eq_false (by omega)] at k; exact k
    · rw [decide_eq_true (by omega)] at k; exact k
theorem stB_ex {B : Bk} {x1 x2 : Int32} (hm : bM B ≤ 6) (h : stB B x1 x2 = true) : ∃ a b, a < bM B ∧ b ≤ bTp B a ∧ x1 = nI a ∧ x2.toInt = (b : Nat) ∧ x2 = nI b := by
  unfold stB at h
  rw [Bool.and_eq_true, decide_eq_true_eq] at h
  obtain ⟨a, ha, e1⟩ := isN_ex (dP_iff.mp h.1) (by omega)
  obtain ⟨n, hn, e2, hb, -⟩ := clamp_ex h.2.1
  have h2 := h.2.2
  rw [e1, nI_clamp (by omega), hn] at h2
  exact ⟨a, n, ha, by omega, e1, hn, e2⟩
theorem lw_fin {x1 x2 x3 x4 x5 : Int32} {m f a b : Nat} {σ1 : Mem} (hc : stB s.B x1 x2 = true ∧ 0 ≤ x3.toInt ∧ x4.toInt ≤ 240 ∧ x3.toInt ≤ x4.toInt) (e1 : x1.toNatClampNeg = m) (e2 : x2.toNatClampNeg = f) (e3 : x3.toNatClampNeg = a) (e4 : x4.toNatClampNeg = b) (K : Q (some (.int (qLw s.B x1 x2 x3 x4 x5))) σ1) :
    ((¬ x5 = 0 → ((¬ x5 = 1 → Q (some (.int (-1))) σ1) ∧ (x5 = 1 → Q (some (.int (nI (lwS2 s.B m f a b (bN s.B))))) σ1))) ∧ (x5 = 0 → Q (some (.int (nI (lwS1 s.B m f a b (bN s.B))))) σ1)) := by
  unfold qLw at K
  rw [if_pos hc, e1, e2, e3, e4] at K
  refine ⟨fun z => ⟨fun y => ?_, fun y => ?_⟩, fun z => ?_⟩
  · rw [if_neg z, if_neg y] at K; exact K
  · rw [if_neg z, if_pos y] at K; exact K
  · rw [if_pos z] at K; exact K
theorem lw_bad {x1 x2 x3 x4 x5 : Int32} {σ1 : Mem} (hc : ¬ (stB s.B x1 x2 = true ∧ 0 ≤ x3.toInt ∧ x4.toInt ≤ 240 ∧ x3.toInt ≤ x4.toInt) ∨ x5.toInt < 0 ∨ 1 < x5.toInt) (K : Q (some (.int (qLw s.B x1 x2 x3 x4 x5))) σ1) : Q (some (.int (-1))) σ1 := by
  unfold qLw at K
  obtain ⟨t0, t1, t2⟩ := x012 (x := x5)
  rcases hc with h | h
  · rw [if_neg h] at K; exact K
  · rw [if_neg (show ¬ x5 = 0 from fun q => by have := t0.mpr q; omega), if_neg (show ¬ x5 = 1 from fun q => by have := t1.mpr q; omega)] at K
    split at K <;> exact K
theorem k140 {x1 x2 x3 x4 x5 : Int32} (h : RC s σ) (ok : OkS s) (K : ∀ σ', CC σ σ' → RC s σ' → Q (some (.int (qLw s.B x1 x2 x3 x4 x5))) σ') : Cm Θ (d + 3) 140 [.ref 0, .int x1, .int x2, .int x3, .int x4, .int x5] σ Q := by
  obtain ⟨r, o, hB, kn⟩ := id h
  obtain ⟨r1, r2, r3, r4⟩ := rB_r hB
  have h16 := bk16 ok
  have hm := bm6 ok.2.1.1
  have hkB := ok.2.1.1
  have hlv : bN s.B ≤ s.lv := by have := hkB.2.1; omega
  have hB' := hB.2.2.1.1
  have hn := hB'.2.2.1.1
  have fin := K σ cC_rfl h
  have l3 : x3 < 0 ↔ x3.toInt < 0 := i_lt
  have l4 : (240 : Int32) < x4 ↔ 240 < x4.toInt := i_lt
  refine K140 (B140_0 ?_)
  rw [r1, l3, l4, i_le]
  refine ⟨r2, r3, c13' (d := d + 1) hB' ok ⟨_, rfl, fun z => lw_bad (Or.inl fun q => by rw [b01_0] at z; rw [z] at q; cases q.1) fin, fun z => ⟨fun w => lw_bad (Or.inl fun q => by omega) fin, fun w => ⟨fun y => lw_bad (Or.inl fun q => by omega) fin, fun y => ⟨fun u => ?_, fun u => lw_bad (Or.inl fun q => by omega) fin⟩⟩⟩⟩⟩
  rw [b01_n] at z
  have hc : stB s.B x1 x2 = true ∧ 0 ≤ x3.toInt ∧ x4.toInt ≤ 240 ∧ x3.toInt ≤ x4.toInt := ⟨z, by omega, by omega, u⟩
  obtain ⟨m, f, hm', hf, e1, e2, e2'⟩ := stB_ex hm z
  obtain ⟨a, ea, ea', -, ea''⟩ := clamp_ex (x := x3) (by omega)
  obtain ⟨b, eb, eb', -, eb''⟩ := clamp_ex (x := x4) (by omega)
  have ht := (hkB.2.2.1 m hm').2
  have lf := lw_fin (Q := Q) (x5 := x5) hc (m := m) (f := f) (by rw [e1, nI_clamp (by omega)]) (by rw [e2', nI_clamp (by omega)]) ea'' eb'' fin
  rw [e1, e2', ea', eb']
  have i_lt' : ∀ x y : Nat, x < 1000000 → y < 1000000 → (nI x < nI y ↔ x < y) := fun x y hx hy => by rw [i_lt, nI_int (by omega), nI_int (by omega)]; omega
  have b1 : ∀ i, i ≤ bN s.B → lwS1 s.B m f a b i ≤ 16 := fun i hi => Nat.le_trans (cN_max _ _) (by omega)
  have b2 : ∀ i, i ≤ bN s.B → lwS2 s.B m f a b i ≤ 3840 := fun i hi => Nat.le_trans (sN_b i (b := 240) fun c hc => by
    have := (hkB.2.2.2.2.1 c (by omega)).2.2.1
    have := dsG_b (b := b) this (show a ≤ 240 by omega)
    split <;> omega) (Nat.mul_le_mul (show i ≤ 16 by omega) (Nat.le_refl 240))
  refine loopN (P := fun i => G Θ (d + 3) 140 41 [some (.ref 0), some (.int (nI m)), some (.int (nI f)), some (.int (nI a)), some (.int (nI b)), some (.int x5), some (.int (nI (lwS1 s.B m f a b i))), some (.int (nI (lwS2 s.B m f a b i))), some (.int (nI i)), none] [] σ Q) (bN s.B) ?_ ?_
  · refine B140_41 ?_
    rw [r1, hn]
    exact ⟨r2, r3, fun _ => lf, fun q => absurd (nI_le (Nat.le_refl _) (by omega)) q⟩
  · intro i hi ih
    refine B140_41 ?_
    have hg := (hkB.2.2.2.2.1 i (by omega)).2.2.1
    have hst := (hkB.2.2.2.2.1 i (by omega)).2.2.2.2.2 m hm'
    have hdb := dsG_b (b := b) hg (show a ≤ 240 by omega)
    rw [r1, hn, nI_1]
    refine ⟨r2, r3, fun q => absurd q (nI_ge hi (by omega)), fun _ => ⟨r2, r3, ro (c15 r3 (by omega) (by omega)) ?_⟩⟩
    try dsimp only
    rw [r1, hB'.2.2.1.2.2.2.2.2 i m (by omega) hm', i_lt' _ _ (by omega) (by omega), nI_clamp (by omega), hB'.2.2.1.2.2.2.1 i (by omega)]
    refine ⟨fun q => ?_, fun q => ⟨r2, r3, vp_in_nI (by omega) (by decide), c165 (by omega) (by omega) (by omega) ⟨_, rfl, ?_⟩⟩⟩
    · obtain ⟨s1, s2⟩ := lw_sk (B := s.B) (m := m) (f := f) (a := a) (b := b) (i := i) (by omega)
      rw [s1, s2] at ih; exact ih
    · obtain ⟨s1, s2⟩ := lw_st (B := s.B) (m := m) (f := f) (a := a) (b := b) (i := i) (by omega)
      rw [s1, s2] at ih
      show (nI (dsG (bG s.B i) a b) ≤ 0 → _) ∧ (¬ nI (dsG (bG s.B i) a b) ≤ 0 → _)
      have l0 : nI (dsG (bG s.B i) a b) ≤ 0 ↔ dsG (bG s.B i) a b = 0 := by
        rw [i_le, nI_int (by omega)]; show ((dsG (bG s.B i) a b : Nat) : Int) ≤ 0 ↔ _; omega
      rw [l0, show nI (if bG s.B i < a then a - bG s.B i else if b < bG s.B i then bG s.B i - b else 0) = nI (dsG (bG s.B i) a b) from rfl, nI_add, nI_1]
      refine ⟨fun q => ?_, fun q => ?_⟩
      · rw [if_neg (by omega)] at ih; rw [show ∀ x : Int32, x + 0 = x from Int32.add_zero]; exact ih
      · rw [if_pos (by omega)] at ih; exact ih
theorem k249 {x1 x2 x3 x4 x5 : Int32} (h : RR s σ) (ok : OkS s) (K : ∀ σ', CR σ σ' → RR s σ' → Q (some (.int (qLw s.B x1 x2 x3 x4 x5))) σ') : Cm Θ (d + 2) 249 [.ref 124, .int x1, .int x2, .int x3, .int x4, .int x5] σ Q := by
  have h16 := bk16 ok
  have hm := bm6 ok.2.1.1
  have hkB := ok.2.1.1
  have hlv : bN s.B ≤ s.lv := by have := hkB.2.1; omega
  have hn := h.2.1.2.1.1
  have fin := K σ cR_rfl h
  have l2 : x2 < 0 ↔ x2.toInt < 0 := i_lt
  have l5 : x5 < 0 ↔ x5.toInt < 0 := i_lt
  have l51 : x5 ≤ 1 ↔ x5.toInt ≤ 1 := i_le
  have l34 : x4 < x3 ↔ x4.toInt < x3.toInt := i_lt
  have nst : dP (isN x1 (bM s.B)) = false → ¬ stB s.B x1 x2 = true := fun q => by unfold stB; rw [q]; simp
  refine K249 (B249_0 (c201 h.2.1.1.1 (by omega) ⟨_, rfl, fun z => B249_54 (lw_bad (Or.inl fun q => nst (b01_0.mp z) q.1) fin), fun z => ?_⟩))
  rw [b01_n] at z
  obtain ⟨m, hm', e1⟩ := isN_ex (dP_iff.mp z) (by omega)
  have ht := (hkB.2.2.1 m hm').2
  have est : stB s.B x1 x2 = true ↔ 0 ≤ x2.toInt ∧ x2.toInt ≤ (bTp s.B m : Nat) := by
    unfold stB; rw [z, e1, nI_clamp (by omega), Bool.true_and, decide_eq_true_eq]
  have e241 : ∀ x : Int32, dP (isN x 241) = true ↔ 0 ≤ x.toInt ∧ x.toInt ≤ 240 := fun x => by
    rw [dP_iff]; unfold isN
    exact ⟨fun h => ⟨h.1, by have := h.2; omega⟩, fun h => ⟨h.1, by omega⟩⟩
  have f241 : ∀ x : Int32, dP (isN x 241) = false → ¬ (0 ≤ x.toInt ∧ x.toInt ≤ 240) := fun x q w => by
    rw [(e241 x).mpr w] at q; cases q
  have vm : vp_in (nI m) 6 := vp_in_nI (by omega) (by decide)
  have em : (nI m).toNatClampNeg = m := nI_clamp (by omega)
  have etp : σ.1 139 m < x2 ↔ (bTp s.B m : Nat) < x2.toInt := by rw [h.2.1.1.2.2.1 m hm', i_lt, nI_int (by omega)]
  rw [l2, l34, l5, l51]
  refine ⟨fun w => B249_54 (lw_bad (Or.inl fun q => by have := est.mp q.1; omega) fin), fun w => ⟨by rw [e1]; exact vm, ?_⟩⟩
  rw [e1, em, etp]
  refine ⟨fun y => B249_54 (lw_bad (Or.inl fun q => by have := est.mp q.1; omega) fin), fun y => c248 ⟨_, rfl, fun u => B249_54 (lw_bad (Or.inl fun q => f241 _ (b01_0.mp u) (by omega)) fin), fun u => c248 ⟨_, rfl, fun v => B249_54 (lw_bad (Or.inl fun q => f241 _ (b01_0.mp v) (by omega)) fin), fun v => ⟨fun t => B249_54 (lw_bad (Or.inl fun q => by omega) fin), fun t => ⟨fun p => B249_54 (lw_bad (Or.inr (Or.inl p)) fin), fun p => ⟨fun p2 => ?_, fun p2 => B249_54 (lw_bad (Or.inr (Or.inr (by omega))) fin)⟩⟩⟩⟩⟩⟩
  rw [b01_n] at u v
  have u := (e241 _).mp u
  have v := (e241 _).mp v
  have hc : stB s.B x1 x2 = true ∧ 0 ≤ x3.toInt ∧ x4.toInt ≤ 240 ∧ x3.toInt ≤ x4.toInt := ⟨est.mpr (by omega), by omega, by omega, by omega⟩
  obtain ⟨f, ef, ef', -, ef''⟩ := clamp_ex (x := x2) (by omega)
  obtain ⟨a, ea, ea', -, ea''⟩ := clamp_ex (x := x3) (by omega)
  obtain ⟨b, eb, eb', -, eb''⟩ := clamp_ex (x := x4) (by omega)
  have lf := lw_fin (Q := Q) (x5 := x5) hc (m := m) (f := f) (by rw [e1, nI_clamp (by omega)]) ef'' ea'' eb'' fin
  rw [ef', ea', eb']
  have i_le' : ∀ x y : Nat, x < 1000000 → y < 1000000 → (nI x ≤ nI y ↔ x ≤ y) := fun x y hx hy => by rw [i_le, nI_int (by omega), nI_int (by omega)]; omega
  have t1 := x012 (x := x5)
  refine loopN (P := fun i => G Θ (d + 2) 249 65 [some (.ref 124), some (.int (nI m)), some (.int (nI f)), some (.int (nI a)), some (.int (nI b)), some (.int x5), some (.int (nI (lwS1 s.B m f a b i))), some (.int (nI (lwS2 s.B m f a b i))), some (.int (nI i)), none] [] σ Q) (bN s.B) ?_ ?_
  · refine B249_65 ?_
    rw [hn]
    exact ⟨fun _ => ⟨fun z => (lf.1 z).2 (t1.2.1.mp (by have : ¬ x5.toInt = 0 := fun q => z (t1.1.mp q); omega)), fun z => lf.2 z⟩, fun q => absurd (nI_le (Nat.le_refl _) (by omega)) q⟩
  · intro i hi ih
    refine B249_65 ?_
    have hg := (hkB.2.2.2.2.1 i (by omega)).2.2.1
    have hst := (hkB.2.2.2.2.1 i (by omega)).2.2.2.2.2 m hm'
    have e6 : (6 : Int32) * nI i + nI m = nI (6 * i + m) := by rw [show (6 : Int32) = nI 6 from rfl, pk_mul, nI_add]
    have vi := vp_in_nI (show i < 16 by omega) (by decide)
    rw [hn, e6, nI_clamp (show 6 * i + m < 2147483648 by omega), nI_clamp (show i < 2147483648 by omega), h.2.1.2.1.2.2.2.2.2 i m (by omega) hm', h.2.1.2.1.2.2.2.1 i (by omega), i_le' _ _ (by omega) (by omega), i_le' _ _ (by omega) (by omega), i_le' _ _ (by omega) (by omega), i_le' _ _ (by omega) (by omega)]
    refine ⟨fun q => absurd q (by omega), fun _ => ⟨vp_in_nI (by omega) (by decide), fun q => ⟨vi, fun w => ⟨vi, fun w2 => ?_, fun w2 => ⟨vi, ?_⟩⟩, fun w => ⟨vi, ?_⟩⟩, fun q => ?_⟩⟩
    · obtain ⟨s1, s2⟩ := lw_st (B := s.B) (m := m) (f := f) (a := a) (b := b) (i := i) q
      have e0 : dsG (bG s.B i) a b = 0 := by unfold dsG; rw [if_neg (by omega), if_neg (by omega)]
      rw [s1, s2, e0] at ih
      refine B249_166 ?_
      rw [nI_1, show ∀ x : Int32, x + 0 = x from Int32.add_zero, show ∀ x : Int32, x + 0 = x from Int32.add_zero]; exact ih
    · obtain ⟨s1, s2⟩ := lw_st (B := s.B) (m := m) (f := f) (a := a) (b := b) (i := i) q
      have e0 : dsG (bG s.B i) a b = bG s.B i - b := by unfold dsG; rw [if_neg (by omega), if_pos (by omega)]
      rw [s1, s2, e0, if_pos (by omega)] at ih
      rw [pk_sub (by omega), show (0 : Int32) = nI 0 from rfl, i_le' _ _ (by omega) (by omega)]
      refine ⟨fun z => by omega, fun z => B249_166 ?_⟩
      rw [nI_1, nI_1, nI_add]; exact ih
    · obtain ⟨s1, s2⟩ := lw_st (B := s.B) (m := m) (f := f) (a := a) (b := b) (i := i) q
      have e0 : dsG (bG s.B i) a b = a - bG s.B i := by unfold dsG; rw [if_pos (by omega)]
      rw [s1, s2, e0, if_pos (by omega)] at ih
      rw [pk_sub (by omega), show (0 : Int32) = nI 0 from rfl, i_le' _ _ (by omega) (by omega)]
      refine ⟨fun z => by omega, fun z => B249_166 ?_⟩
      rw [nI_1, nI_1, nI_add]; exact ih
    · obtain ⟨s1, s2⟩ := lw_sk (B := s.B) (m := m) (f := f) (a := a) (b := b) (i := i) q
      rw [s1, s2] at ih
      refine B249_166 ?_
      rw [nI_1]; exact ih
end ans7
