/-! THE CALLS: cost, grid, loses, best -/
theorem hwB {B : Bk} {lv : Nat} (hk : BkOk lv B) {T : Nat → Bool} (hT : ∀ c, T c = true → c < bN B) : wT (bW B) T ≤ 64 :=
  wT_b (by have := hk.2.1; omega) hT fun c hc => (wP hk (decide_eq_true hc)).2.1
theorem cost_b {B : Bk} {lv : Nat} (hk : BkOk lv B) {D : Nat → Nat → Bool} {f : Nat → Rat} {r : Rat} (h1 : VI 16 D (Al B) (qF (bW B)) (qF (bG B)) f) (h2 : r = sT 16 (Al B) (fun c => qF (bW B) c * ((qF (bG B) c - f c) * (qF (bG B) c - f c)))) : 0 ≤ r ∧ r ≤ ((921600 : Nat) : Rat) := by
  rw [h2]
  exact cost_120 (hwB hk fun c hc => al_lt hc) (fun c _ hc => (wP hk hc).2.2) h1
theorem qC_b {B : Bk} {lv : Nat} (hk : BkOk lv B) {D : Nat → Nat → Bool} {r : Rat} (h : CstV B D (Al B) r) : 0 ≤ r ∧ r ≤ ((921600 : Nat) : Rat) := by
  obtain ⟨f, h1, h2⟩ := h
  exact cost_b hk h1 h2
theorem SqC_r {B : Bk} {lv q : Nat} {D : Nat → Nat → Bool} {σ : Mem} (hk : BkOk lv B) (h : SqC q (bW B) (bG B) D (Al B) σ) : ∃ r, CstV B D (Al B) r ∧ r.den ≤ 2300000 ∧ (0 ≤ r ∧ r ≤ ((921600 : Nat) : Rat)) ∧ r = qC B D (Al B) ∧ σ.2.1 (q + 4) 0 = jJ r.num ∧ σ.2.1 (q + 4) 1 = jJ (r.den : Nat) := by
  obtain ⟨f, r, h1, h2, h3, h4, -⟩ := h
  exact ⟨r, ⟨f, h1, h2⟩, h3, cost_b hk h1 h2, qC_is hk (fun c hc => al_lt hc) ⟨f, h1, h2⟩, h4.1, h4.2⟩
theorem SqR_r {B : Bk} {lv : Nat} {D : Nat → Nat → Bool} {σ : Mem} (hk : BkOk lv B) (h : SqR (bW B) (bG B) D (Al B) σ) : ∃ r, CstV B D (Al B) r ∧ r.den ≤ 2300000 ∧ (0 ≤ r ∧ r ≤ ((921600 : Nat) : Rat)) ∧ r = qC B D (Al B) ∧ σ.2.1 124 44 = jJ r.num ∧ σ.2.1 124 45 = jJ (r.den : Nat) := by
  obtain ⟨f, r, h1, h2, h3, h4, -⟩ := h
  exact ⟨r, ⟨f, h1, h2⟩, h3, cost_b hk h1 h2, qC_is hk (fun c hc => al_lt hc) ⟨f, h1, h2⟩, h4.1, h4.2⟩
theorem gD_le {B : Bk} {lv : Nat} {f : Nat → Nat} (hk : BkOk lv B) (hf : ∀ c, c < bN B → f c ≤ 240) {c : Nat} (hc : c < bN B) : gD (bW B) (bG B) f c ≤ 960 := by
  have h := wP hk (B := B) (c := c) (decide_eq_true hc)
  have h1 := hf c hc
  have h2 : absD (bG B c) (f c) ≤ 240 := by unfold absD; split <;> omega
  exact Nat.mul_le_mul (show bW B c ≤ 4 by omega) h2
noncomputable def qGc (B : Bk) : Nat := sN (bN B) (gD (bW B) (bG B) (qKg B))
noncomputable def qCs (B : Bk) (x1 x2 : Int32) : Int64 :=
  if x1.toInt < 0 ∨ 2 < x1.toInt then -1 else if dP (isN x2 2) = true then
    rp (if x1 = 0 then qC B (dO B) (Al B) else if x1 = 1 then mkRat (qGc B : Nat) 1 else mkRat (grC (dO B) (bG B) (bN B) : Nat) 2) x2 else -1
theorem qGc_is {B : Bk} {f : Nat → Nat} (h16 : bN B ≤ 16) (h : KG (bW B) (bG B) (dO B) (Al B) f) : sN (bN B) (gD (bW B) (bG B) f) = qGc B :=
  sN_congr _ fun c hc => by unfold gD; rw [qKg_is h h16 hc]
theorem grC_le {B : Bk} {D : Nat → Nat → Bool} (hg : ∀ c, c < bN B → bG B c ≤ 240) : grC D (bG B) (bN B) ≤ 480 :=
  mxS_le _ fun i hi => by
    have b1 := hiG_le (D := D) (g := bG B) (i := i) (bN B) (hg i hi) hg
    have b2 := loG_le (D := D) (g := bG B) (i := i) (bN B) (hg i hi)
    have b3 := hg i hi
    unfold absD; split <;> omega
section ans3
variable {Θ : Th} {d : Nat} {σ : Mem} {Q : Po} {s : St}
theorem sN_960 {B : Bk} {lv : Nat} {f : Nat → Nat} (hk : BkOk lv B) (hf : ∀ c, c < bN B → f c ≤ 240) : sN (bN B) (gD (bW B) (bG B) f) ≤ 15360 :=
  Nat.le_trans (sN_b _ fun c hc => gD_le hk hf hc) (Nat.mul_le_mul (show bN B ≤ 16 by have := hk.2.1; omega) (Nat.le_refl 960))
theorem k127 {x1 x2 : Int32} (h : RC s σ) (ok : OkS s) (K : ∀ σ', CC σ σ' → RC s σ' → Q (some (.long (qCs s.B x1 x2))) σ') : Cm Θ (d + 8) 127 [.ref 0, .int x1, .int x2] σ Q := by
  obtain ⟨r, o, hB, kn⟩ := id h
  have h16 := bk16 ok
  have hkB := ok.2.1.1
  obtain ⟨t0, t1, t2⟩ := x012 (x := x1)
  unfold qCs at K
  have bad : (dP (isN x2 2) = false ∨ x1.toInt < 0 ∨ 2 < x1.toInt) → Q (some (.long (-1))) σ := fun q => by
    have := K σ cC_rfl h
    by_cases y : x1.toInt < 0 ∨ 2 < x1.toInt
    · rw [if_pos y] at this; exact this
    rw [if_neg y] at this
    by_cases y2 : dP (isN x2 2) = true
    · rw [y2] at q
      rcases q with q | q
      · cases q
      · exact absurd q y
    · rw [if_neg y2] at this; exact this
  refine K127 (B127_0 (c155 ⟨_, rfl, fun y => ⟨fun w => ?_, fun w => ?_, fun w => ?_, fun w => ?_⟩, fun y => bad (Or.inl (b01_0.mp y))⟩))
  · exact bad (Or.inr w)
  all_goals (
    rw [b01_n] at y
    rw [if_neg (by omega), if_pos y] at K)
  · rw [if_pos (t0.mp w)] at K
    refine k161' (d := d + 1) hB kn ok fun s1 cc hB1 kn1 q1 => ⟨92, rfl, rfl, ?_⟩
    have fin := K s1 cc ⟨r, o, hB1, kn1⟩
    obtain ⟨q, -, -, -, e, g1, g2⟩ := SqC_r hkB q1
    rw [← e] at fin
    refine c49 rfl ⟨_, rfl, ?_⟩
    rw [rp_i g1 g2]; exact fin
  · rw [if_neg (fun q => by have := t0.mpr q; omega), if_pos (t1.mp w)] at K
    refine k162' (d := d + 1) hB kn ok fun s1 cc hB1 kn1 q1 => ⟨92, rfl, rfl, ?_⟩
    obtain ⟨f, v1, v2, v3⟩ := q1
    have e := qGc_is h16 v1
    have b := sN_960 hkB fun c hc => (v2 c hc).1
    try dsimp only
    rw [v3, nI_j (by omega), e]
    refine c47k (d := d + 6) (l := 1) hB1 kn1 (by rw [← e]; omega) (by rw [← e]; omega) (by decide) (by decide) fun s2 cc2 hB2 kn2 _ g2 => ⟨rfl, c49 rfl ⟨_, rfl, ?_⟩⟩
    rw [rp_i g2.1 g2.2]
    exact K s2 (cC_tr cc cc2) ⟨r, o, hB2, kn2⟩
  · rw [if_neg (fun q => by have := t0.mpr q; omega), if_neg (fun q => by have := t1.mpr q; omega)] at K
    refine k160' (d := d + 4) hB kn ok fun s1 cc hB1 kn1 o1 rd => ⟨83, rfl, rfl, ?_⟩
    obtain ⟨r1, r2, r3, r4⟩ := rB_r hB1
    try dsimp only
    rw [r1]
    refine ⟨r2, r3, c89 (d := d + 5) o1 rd ⟨_, rfl, ?_⟩⟩
    have b := grC_le (D := dO s.B) fun c hc => (rd.2.2.2.1 c hc).2
    try dsimp only
    rw [nI_j (by omega)]
    refine c47k (d := d + 6) (l := 2) hB1 kn1 (by omega) (by omega) (by decide) (by decide) fun s2 cc2 hB2 kn2 _ g2 => ⟨rfl, c49 rfl ⟨_, rfl, ?_⟩⟩
    rw [rp_i g2.1 g2.2]
    exact K s2 (cC_tr cc cc2) ⟨r, o, hB2, kn2⟩
theorem mk1 (n : Nat) : mkRat (n : Nat) 1 = ((n : Nat) : Rat) := by
  rw [Rat.mkRat_one]; rfl
theorem k229 {x1 x2 : Int32} (h : RR s σ) (ok : OkS s) (K : ∀ σ', CR σ σ' → RR s σ' → Q (some (.long (qCs s.B x1 x2))) σ') : Cm Θ (d + 8) 229 [.ref 124, .int x1, .int x2] σ Q := by
  have h16 := bk16 ok
  have hkB := ok.2.1.1
  have hlv : bN s.B ≤ s.lv := by have := hkB.2.1; omega
  have l0 : x1 < 0 ↔ x1.toInt < 0 := i_lt
  have l2 : (2 : Int32) < x1 ↔ 2 < x1.toInt := i_lt
  obtain ⟨t0, t1, t2⟩ := x012 (x := x1)
  unfold qCs at K
  have bad : (dP (isN x2 2) = false ∨ x1.toInt < 0 ∨ 2 < x1.toInt) → Q (some (.long (-1))) σ := fun q => by
    have := K σ cR_rfl h
    by_cases y : x1.toInt < 0 ∨ 2 < x1.toInt
    · rw [if_pos y] at this; exact this
    rw [if_neg y] at this
    by_cases y2 : dP (isN x2 2) = true
    · rw [y2] at q
      rcases q with q | q
      · cases q
      · exact absurd q y
    · rw [if_neg y2] at this; exact this
  refine K229 (B229_0 ⟨fun z => bad (Or.inr (Or.inl (l0.mp z))), fun zz => ⟨fun z => bad (Or.inr (Or.inr (l2.mp z))), fun zw => c213 ⟨_, rfl, fun y => ?_, fun y => bad (Or.inl (b01_0.mp y))⟩⟩⟩)
  rw [b01_n] at y
  rw [l0] at zz; rw [l2] at zw
  rw [if_neg (by omega), if_pos y] at K
  refine k198 (d := d + 5) h ok fun s1 cc hR1 o1 => ⟨rfl, fun w0 => ⟨fun w1 => ?_, fun w1 => ?_⟩, fun w0 => ?_⟩
  · rw [if_neg w0, if_neg w1] at K
    have fin := K s1 cc hR1
    have hg : ∀ c, c < bN s.B → bG s.B c ≤ 240 := fun c hc => (bk_g hR1.2.1 hkB hc).2
    have bb := fun n (hn : n ≤ bN s.B) => (mxS_le n (f := fun i => absD (hiG (dO s.B) (bG s.B) i (bN s.B) + loG (dO s.B) (bG s.B) i (bN s.B)) (2 * bG s.B i)) (b := 480) fun i hi => by
      have b1 := hiG_le (D := dO s.B) (g := bG s.B) (i := i) (bN s.B) (hg i (by omega)) hg
      have b2 := loG_le (D := dO s.B) (g := bG s.B) (i := i) (bN s.B) (hg i (by omega))
      have b3 := hg i (by omega)
      unfold absD; split <;> omega)
    refine loopN (P := fun i => G Θ (d + 8) 229 89 [some (.ref 124), none, some (.int x2), some (.int (nI (mxS i (fun i => absD (hiG (dO s.B) (bG s.B) i (bN s.B) + loG (dO s.B) (bG s.B) i (bN s.B)) (2 * bG s.B i))))), some (.int (nI i)), none] [] s1 Q) (bN s.B) ?_ ?_
    · refine B229_89 ⟨fun _ => ?_, fun q => absurd (by rw [hR1.2.1.2.1.1]; exact nI_le (Nat.le_refl _) (by omega)) q⟩
      have b := bb _ (Nat.le_refl _)
      rw [nI_j (by omega)]
      refine c211k (d := d + 6) (l := 2) hR1 (by omega) (by omega) (by decide) (by decide) fun s2 q2 hR2 _ g2 => ⟨rfl, c214 ⟨_, rfl, ?_⟩⟩
      rw [rp_i g2.1 g2.2]
      exact K s2 (cR_tr cc q2.1) hR2
    · intro i hi ih
      refine B229_89 ⟨fun q => absurd q (by rw [hR1.2.1.2.1.1]; exact nI_ge hi (by omega)), fun _ => ⟨vp_in_nI (by omega) (by decide), c227 (d := d + 6) hR1.2.1 hkB o1 hi ⟨_, rfl, ?_⟩⟩⟩
      have b1 := hiG_le (D := dO s.B) (g := bG s.B) (i := i) (bN s.B) (hg i (by omega)) hg
      have b2 := loG_le (D := dO s.B) (g := bG s.B) (i := i) (bN s.B) (hg i (by omega))
      have b3 := hg i hi
      have b4 := bb i (by omega)
      have es : mxS (i + 1) (fun i => absD (hiG (dO s.B) (bG s.B) i (bN s.B) + loG (dO s.B) (bG s.B) i (bN s.B)) (2 * bG s.B i)) = max (mxS i (fun i => absD (hiG (dO s.B) (bG s.B) i (bN s.B) + loG (dO s.B) (bG s.B) i (bN s.B)) (2 * bG s.B i))) (absD (hiG (dO s.B) (bG s.B) i (bN s.B) + loG (dO s.B) (bG s.B) i (bN s.B)) (2 * bG s.B i)) := rfl
      rw [es] at ih
      try dsimp only
      rw [nI_clamp (by omega), hR1.2.1.2.1.2.2.2.1 i (by omega)]
      have b12 : hiG (dO s.B) (bG s.B) i (bN s.B) + loG (dO s.B) (bG s.B) i (bN s.B) ≤ 480 := by omega
      generalize hiG (dO s.B) (bG s.B) i (bN s.B) + loG (dO s.B) (bG s.B) i (bN s.B) = u at *
      generalize mxS i (fun i => absD (hiG (dO s.B) (bG s.B) i (bN s.B) + loG (dO s.B) (bG s.B) i (bN s.B)) (2 * bG s.B i)) = m at *
      have e2 : (2 : Int32) * nI (bG s.B i) - nI u = iI ((2 * bG s.B i : Nat) - (u : Nat) : Int) := by
        rw [show (2 : Int32) = nI 2 from rfl, pk_mul, iI_nI, iI_nI, iI_sub]
      rw [e2, nI_1]
      have le0 : ∀ z : Int, -1000 ≤ z → z ≤ 1000 → (0 ≤ iI z ↔ 0 ≤ z) := fun z h1 h2 => by rw [i_le, iI_toInt (by omega) (by omega)]; exact Iff.rfl
      have leM : ∀ z : Int, -1000 ≤ z → z ≤ 1000 → (iI z ≤ nI m ↔ z ≤ m) := fun z h1 h2 => by rw [i_le, iI_toInt (by omega) (by omega), nI_int (by omega)]
      have hneg : -iI ((2 * bG s.B i : Nat) - (u : Nat) : Int) = iI ((u : Nat) - (2 * bG s.B i : Nat) : Int) := by
        rw [iI_neg]; congr 1; omega
      rw [hneg, le0 _ (by omega) (by omega), leM _ (by omega) (by omega), leM _ (by omega) (by omega)]
      have hz : ∀ z : Int, 0 ≤ z → iI z = nI z.toNat := fun z hz => by rw [iI_nI]; congr 1; omega
      refine ⟨fun p => ⟨fun q => ?_, fun q => ?_⟩, fun p => ⟨fun q => ?_, fun q => ?_⟩⟩
      · rw [show max m (absD u (2 * bG s.B i)) = m by unfold absD; split <;> omega] at ih; exact ih
      · rw [hz _ (by omega)]
        rw [show max m (absD u (2 * bG s.B i)) = (((2 * bG s.B i : Nat) - (u : Nat) : Int)).toNat by unfold absD; split <;> omega] at ih; exact ih
      · rw [show max m (absD u (2 * bG s.B i)) = m by unfold absD; split <;> omega] at ih; exact ih
      · rw [hz _ (by omega)]
        rw [show max m (absD u (2 * bG s.B i)) = (((u : Nat) - (2 * bG s.B i : Nat) : Int)).toNat by unfold absD; split <;> omega] at ih; exact ih
  · rw [if_neg w0, if_pos w1] at K
    refine k222 (d := d + 5) hR1 ok o1 fun s2 f q2 hR2 v1 v2 => ⟨rfl, ?_⟩
    have e := qGc_is h16 v1
    have hf : ∀ c, c < bN s.B → f c ≤ 240 := fun c hc => (v2 c hc).1
    rw [← e] at K
    refine c211k (d := d + 6) (u := 0) (l := 1) hR2 (by decide) (by decide) (by decide) (by decide) fun s3 q3 hR3 ft3 g3 => ⟨rfl, ?_⟩
    have lp := loopS (α := Mem) (I := fun i t => Ft [] s2 t ∧ (t.2.1 124 44 = jJ ((sN i (gD (bW s.B) (bG s.B) f) : Nat) : Int) ∧ t.2.1 124 45 = jJ (1 : Nat))) (P := fun i t => G Θ (d + 8) 229 56 [some (.ref 124), none, some (.int x2), some (.int (nI i)), none, none] [] t Q) (bN s.B) ?_ ?_ s3 ⟨ft3, g3.1, g3.2⟩
    · exact lp
    · intro t ⟨ft, t1, t2⟩
      have qt := qR_ft ft fun x hx => by cases hx
      have hRt := RR_Q hR2 qt.2
      refine B229_56 ⟨fun _ => c214 ⟨_, rfl, ?_⟩, fun q => absurd (by rw [hRt.2.1.2.1.1]; exact nI_le (Nat.le_refl _) (by omega)) q⟩
      rw [rp_i (r := ((sN (bN s.B) (gD (bW s.B) (bG s.B) f) : Nat) : Rat)) (by rw [t1]; rfl) (by rw [t2]; rfl), ← mk1]
      exact K t (cR_tr cc (cR_tr q2.1 qt.1)) hRt
    · intro i t hi ⟨ft, t1, t2⟩ ih
      have qt := qR_ft ft fun x hx => by cases hx
      have hRt := RR_Q hR2 qt.2
      have hg := (bk_g hRt.2.1 hkB hi)
      have b := gD_le hkB hf hi
      have b' := Nat.le_trans (sN_b i (f := gD (bW s.B) (bG s.B) f) (b := 960) fun c hc => gD_le hkB hf (by omega)) (Nat.mul_le_mul (show i ≤ 16 by omega) (Nat.le_refl 960))
      have et := qt.2.1 157 
      refine B229_56 ⟨fun q => absurd q (by rw [hRt.2.1.2.1.1]; exact nI_ge hi (by omega)), fun _ => c224 (w := bW s.B) (g := bG s.B) (f := f) (by omega) (hRt.2.1.2.1.2.2.2.2.1 i (by omega)) hg ⟨by rw [(ft.1 157 (by simp) (by decide)).1]; exact (v2 i hi).2, hf i hi⟩ ⟨_, rfl, ?_⟩⟩
      try dsimp only
      rw [nI_j (by omega), nI_1]
      refine c212 (d := d + 5) (r := ((sN i (gD (bW s.B) (bG s.B) f) : Nat) : Rat)) (l := 1) ⟨by rw [t1]; rfl, by rw [t2]; rfl⟩ (by show (1 : Nat) < 2 ^ 49; decide) (by decide) (by show Nat.lcm 1 1 < 2 ^ 49; decide) ?_ ?_ ⟨rfl, ?_⟩
      · show _ < ((sN i (gD (bW s.B) (bG s.B) f) : Nat) : Int) * ((1 / Nat.gcd 1 1 : Nat) : Int) + ((gD (bW s.B) (bG s.B) f i : Nat) : Int) * ((1 / Nat.gcd 1 1 : Nat) : Int)
        rw [show 1 / Nat.gcd 1 1 = 1 from rfl]; omega
      · show ((sN i (gD (bW s.B) (bG s.B) f) : Nat) : Int) * ((1 / Nat.gcd 1 1 : Nat) : Int) + ((gD (bW s.B) (bG s.B) f i : Nat) : Int) * ((1 / Nat.gcd 1 1 : Nat) : Int) < _
        rw [show 1 / Nat.gcd 1 1 = 1 from rfl]; omega
      · have e1 : ((sN i (gD (bW s.B) (bG s.B) f) : Nat) : Rat) + mkRat ((gD (bW s.B) (bG s.B) f i : Nat) : Int) 1 = ((sN (i + 1) (gD (bW s.B) (bG s.B) f) : Nat) : Rat) := by
          rw [mk1]; show _ = ((sN i (gD (bW s.B) (bG s.B) f) + gD (bW s.B) (bG s.B) f i : Nat) : Rat)
          rw [Rat.natCast_add]
        rw [e1]
        obtain ⟨g1, g2⟩ := frW_0 t 124 (i := 44) (j := 45) (by decide) ((sN (i + 1) (gD (bW s.B) (bG s.B) f) : Nat) : Rat)
        exact ih _ ⟨ft.fw _, g1, g2⟩
  · rw [if_pos w0] at K
    refine c219 hR1.2.1.2.1.1 h16 ⟨_, rfl, ?_⟩
    refine k217 (d := d + 3) hR1 ok (fun c hc => (o1 c hc).1) (dOk s.B _ _) fun s2 q2 hR2 g2 => ⟨rfl, ?_⟩
    have fin := K s2 (cR_tr cc q2.1) hR2
    obtain ⟨q, -, -, -, e, g1, g2⟩ := SqR_r hkB g2
    rw [← e] at fin
    refine c214 ⟨_, rfl, ?_⟩
    rw [rp_i g1 g2]; exact fin
end ans3
