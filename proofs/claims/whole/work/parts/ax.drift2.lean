/-! THE CALLS: drift -/
noncomputable def drS (B : Bk) (x : Int32) (n : Nat) : Rat := sQ n (fun c => if nI (bY B c) = x then qF (bW B) c * (qF (bG B) c - qVi B c) else 0)
noncomputable def qDr (B : Bk) (x1 x2 : Int32) : Int64 := if dP (isN x1 100) = true then (if dP (isN x2 2) = true then rp (drS B x1 (bN B)) x2 else -1000000000000) else -1000000000000
theorem drS_s {B : Bk} {x : Int32} {i : Nat} : drS B x (i + 1) = drS B x i + (if nI (bY B i) = x then qF (bW B) i * (qF (bG B) i - qVi B i) else 0) := rfl
/-- one step's fraction -/
theorem dr_mk (w g : Nat) (f : Rat) : mkRat ((w : Int) * ((g : Int) * (f.den : Int) - f.num)) f.den = ((w : Nat) : Rat) * (((g : Nat) : Rat) - f) := by
  have hd : ((f.den : Nat) : Rat) ≠ 0 := fun q => by
    have : 0 < ((f.den : Nat) : Rat) := Rat.natCast_pos.mpr f.den_pos
    rw [q] at this; exact absurd this Rat.lt_irrefl
  have h1 : (f.num : Rat) = f * ((f.den : Nat) : Rat) := by
    have h2 := Rat.mkRat_self f
    rw [Rat.mkRat_eq_div] at h2
    have h3 := Rat.div_mul_cancel (a := (f.num : Rat)) hd
    rw [h2] at h3; exact h3.symm
  rw [Rat.mkRat_eq_div]
  have e : ((((w : Int) * ((g : Int) * (f.den : Int) - f.num) : Int)) : Rat) = (((w : Nat) : Rat) * (((g : Nat) : Rat) - f)) * ((f.den : Nat) : Rat) := by
    rw [Rat.intCast_mul, Rat.intCast_sub, Rat.intCast_mul, h1]
    show ((w : Nat) : Rat) * (((g : Nat) : Rat) * ((f.den : Nat) : Rat) - f * ((f.den : Nat) : Rat)) = _
    grind
  rw [e]
  exact Rat.mul_div_cancel hd
theorem abs_num {r : Rat} {k : Nat} (h0 : -((k : Nat) : Rat) ≤ r) (h1 : r ≤ ((k : Nat) : Rat)) : -((k : Int) * (r.den : Int)) ≤ r.num ∧ r.num ≤ (k : Int) * (r.den : Int) := by
  rcases Rat.le_total (a := 0) (b := r) with q | q
  · have := num_b q h1
    have h2 : (0 : Int) ≤ (k : Int) * (r.den : Int) := Int.mul_nonneg (by omega) (by omega)
    omega
  · have := num_b (rr := -r) (k := k) (by grind) (by grind)
    rw [Rat.neg_num, Rat.neg_den] at this
    have h2 : (0 : Int) ≤ (k : Int) * (r.den : Int) := Int.mul_nonneg (by omega) (by omega)
    omega
/-- a sum so far: its bounds, and what an addition wants -/
theorem drS_b {B : Bk} {lv : Nat} {x : Int32} (hk : BkOk lv B) (hq : ∀ c, c < bN B → 0 ≤ qVi B c ∧ qVi B c ≤ ((240 : Nat) : Rat)) : ∀ i, i ≤ bN B → -(((960 * i : Nat)) : Rat) ≤ drS B x i ∧ drS B x i ≤ ((960 * i : Nat) : Rat)
  | 0, _ => by
    have : drS B x 0 = 0 := rfl
    rw [this]; decide
  | i + 1, hi => by
    obtain ⟨h1, h2⟩ := drS_b (x := x) hk hq i (by omega)
    rw [drS_s]
    have e : (((960 * (i + 1) : Nat)) : Rat) = ((960 * i : Nat) : Rat) + ((960 : Nat) : Rat) := by rw [← Rat.natCast_add]; congr 1
    rw [e]
    have hp := wP hk (B := B) (c := i) (decide_eq_true (show i < bN B by omega))
    have hv := hq i (by omega)
    have b1 : 0 ≤ qF (bG B) i ∧ qF (bG B) i ≤ ((240 : Nat) : Rat) := ⟨Rat.natCast_nonneg, Rat.natCast_le_natCast.mpr hp.2.2⟩
    have b2 : 0 ≤ qF (bW B) i ∧ qF (bW B) i ≤ ((4 : Nat) : Rat) := ⟨Rat.natCast_nonneg, Rat.natCast_le_natCast.mpr hp.2.1⟩
    have b3 : -((960 : Nat) : Rat) ≤ (if nI (bY B i) = x then qF (bW B) i * (qF (bG B) i - qVi B i) else 0) ∧ (if nI (bY B i) = x then qF (bW B) i * (qF (bG B) i - qVi B i) else 0) ≤ ((960 : Nat) : Rat) := by
      split
      · generalize qF (bW B) i = a at b2
        generalize qF (bG B) i = g at b1
        generalize qVi B i = v at hv
        have h240 : ((240 : Nat) : Rat) = 240 := rfl
        have h4 : ((4 : Nat) : Rat) = 4 := rfl
        have h960 : ((960 : Nat) : Rat) = 960 := rfl
        have m1 : a * (240 - (g - v)) ≥ 0 := Rat.mul_nonneg b2.1 (by grind)
        have m2 : a * (240 + (g - v)) ≥ 0 := Rat.mul_nonneg b2.1 (by grind)
        rw [h960]
        constructor <;> grind
      · have h960 : ((960 : Nat) : Rat) = 960 := rfl
        rw [h960]; constructor <;> decide
    constructor <;> grind
theorem dr_den {M : Nat} {r : Rat} {u : Int} {l : Nat} (h0 : 0 < M) (hl : 1 ≤ l) (hr : r.den ∣ M) (hd : l ∣ M) : (r + mkRat u l).den ∣ M := by
  have := add_den (rr := r) (u := u) (W := l) (L := [M]) hl (by show r.den ∣ Nat.lcm M 1; exact Nat.dvd_trans hr (Nat.dvd_lcm_left _ _))
  exact Nat.dvd_trans this (Nat.lcm_dvd hd (Nat.lcm_dvd (Nat.dvd_refl _) (Nat.one_dvd _)))
theorem drS_den {B : Bk} {x : Int32} {M : Nat} (h0 : 0 < M) (h : ∀ c, c < bN B → (qVi B c).den ∣ M) : ∀ i, i ≤ bN B → (drS B x i).den ∣ M
  | 0, _ => by show (0 : Rat).den ∣ M; exact Nat.one_dvd _
  | i + 1, hi => by
    rw [drS_s]
    have ih := drS_den (x := x) h0 h i (by omega)
    split
    · have := dr_den (u := ((bW B i : Nat) : Int) * (((bG B i : Nat) : Int) * ((qVi B i).den : Int) - (qVi B i).num)) h0 (qVi B i).den_pos ih (h i (by omega))
      rw [dr_mk] at this; exact this
    · rw [Rat.add_zero]; exact ih
theorem dr_ok {B : Bk} {lv : Nat} {x : Int32} {M i : Nat} (hk : BkOk lv B) (hv : ∀ c, c < bN B → (qVi B c).den ≤ 64 ∧ 0 ≤ qVi B c ∧ qVi B c ≤ ((240 : Nat) : Rat)) (h0 : 0 < M) (hM : M ≤ 2300000) (h : ∀ c, c < bN B → (qVi B c).den ∣ M) (hi : i < bN B) :
    (-1000000000 ≤ ((bW B i : Nat) : Int) * (((bG B i : Nat) : Int) * ((qVi B i).den : Int) - (qVi B i).num) ∧ ((bW B i : Nat) : Int) * (((bG B i : Nat) : Int) * ((qVi B i).den : Int) - (qVi B i).num) ≤ 1000000000) ∧
    (drS B x i).den < 2 ^ 49 ∧ Nat.lcm (drS B x i).den (qVi B i).den < 2 ^ 49 ∧ -9000000000000000000 < (drS B x i).num * (((qVi B i).den / Nat.gcd (drS B x i).den (qVi B i).den : Nat) : Int) + (((bW B i : Nat) : Int) * (((bG B i : Nat) : Int) * ((qVi B i).den : Int) - (qVi B i).num)) * (((drS B x i).den / Nat.gcd (drS B x i).den (qVi B i).den : Nat) : Int) ∧ (drS B x i).num * (((qVi B i).den / Nat.gcd (drS B x i).den (qVi B i).den : Nat) : Int) + (((bW B i : Nat) : Int) * (((bG B i : Nat) : Int) * ((qVi B i).den : Int) - (qVi B i).num)) * (((drS B x i).den / Nat.gcd (drS B x i).den (qVi B i).den : Nat) : Int) < 9000000000000000000 := by
  have h16 : bN B ≤ 16 := by have := hk.2.1; omega
  obtain ⟨v1, v2, v3⟩ := hv i hi
  have hp := wP hk (B := B) (c := i) (decide_eq_true hi)
  have nb := num_b v2 v3
  obtain ⟨s1, s2⟩ := drS_b (x := x) hk (fun c hc => (hv c hc).2) i (by omega)
  have sd := drS_den (x := x) h0 h i (by omega)
  have sM : (drS B x i).den ≤ M := Nat.le_of_dvd h0 sd
  have lM : Nat.lcm (drS B x i).den (qVi B i).den ≤ M := Nat.le_of_dvd h0 (Nat.lcm_dvd sd (h i hi))
  obtain ⟨a1, a2⟩ := abs_num s1 s2
  have q1 : (qVi B i).den / Nat.gcd (drS B x i).den (qVi B i).den ≤ 64 := Nat.le_trans (Nat.div_le_self _ _) v1
  have q2 : (drS B x i).den / Nat.gcd (drS B x i).den (qVi B i).den ≤ 2300000 := Nat.le_trans (Nat.div_le_self _ _) (by omega)
  generalize (qVi B i).den / Nat.gcd (drS B x i).den (qVi B i).den = p at q1 ⊢
  generalize (drS B x i).den / Nat.gcd (drS B x i).den (qVi B i).den = t at q2 ⊢
  have d1 : ((960 * i : Nat) : Int) * ((drS B x i).den : Int) ≤ 15360 * 2300000 := Int.mul_le_mul (c := (15360 : Int)) (d := (2300000 : Int)) (by omega) (by omega) (by omega) (by decide)
  generalize ((960 * i : Nat) : Int) * ((drS B x i).den : Int) = z at a1 a2 d1
  have e1 : ((bG B i : Nat) : Int) * ((qVi B i).den : Int) ≤ 240 * 64 := Int.mul_le_mul (c := (240 : Int)) (d := (64 : Int)) (by omega) (by omega) (by omega) (by decide)
  have e0 : 0 ≤ ((bG B i : Nat) : Int) * ((qVi B i).den : Int) := Int.mul_nonneg (by omega) (by omega)
  have wb : ∀ y : Int, -30720 ≤ y → y ≤ 30720 → -122880 ≤ ((bW B i : Nat) : Int) * y ∧ ((bW B i : Nat) : Int) * y ≤ 122880 := fun y y1 y2 => by
    rcases (show bW B i = 1 ∨ bW B i = 2 ∨ bW B i = 3 ∨ bW B i = 4 by omega) with w | w | w | w <;> (rw [w]; omega)
  have w1 := wb (((bG B i : Nat) : Int) * ((qVi B i).den : Int) - (qVi B i).num) (by omega) (by omega)
  generalize ((bW B i : Nat) : Int) * (((bG B i : Nat) : Int) * ((qVi B i).den : Int) - (qVi B i).num) = u at w1 ⊢
  have mb : ∀ (y : Int) (k : Nat) (Y K : Nat), -(Y : Int) ≤ y → y ≤ (Y : Int) → k ≤ K → -((Y * K : Nat) : Int) ≤ y * (k : Int) ∧ y * (k : Int) ≤ ((Y * K : Nat) : Int) := fun y k Y K h1 h2 h3 => by
    have g1 : y * (k : Int) ≤ (Y : Int) * (K : Int) := Int.le_trans (Int.mul_le_mul_of_nonneg_right h2 (by omega)) (Int.mul_le_mul_of_nonneg_left (by omega) (by omega))
    have g2 : -y * (k : Int) ≤ (Y : Int) * (K : Int) := Int.le_trans (Int.mul_le_mul_of_nonneg_right (by omega : -y ≤ (Y : Int)) (by omega)) (Int.mul_le_mul_of_nonneg_left (by omega) (by omega))
    rw [Int.neg_mul] at g2
    rw [Int.natCast_mul]
    constructor <;> omega
  have k1 := mb (drS B x i).num p (15360 * 2300000) 64 (by omega) (by omega) q1
  have k2 := mb u t 122880 2300000 (by omega) (by omega) q2
  exact ⟨by omega, by omega, by omega, by omega, by omega⟩
section drift
variable {Θ : Th} {d : Nat} {σ : Mem} {Q : Po} {s : St}
theorem k138 {x1 x2 : Int32} (h : RC s σ) (ok : OkS s) (K : ∀ σ', CC σ σ' → RC s σ' → Q (some (.long (qDr s.B x1 x2))) σ') : Cm Θ (d + 7) 138 [.ref 0, .int x1, .int x2] σ Q := by
  obtain ⟨r, o, hB, kn⟩ := id h
  have h16 := bk16 ok
  have hkB := ok.2.1.1
  have hlv : bN s.B ≤ s.lv := by have := hkB.2.1; omega
  unfold qDr at K
  refine K138 (B138_0 (c156 ⟨_, rfl, fun z => ?_, fun z => c155 ⟨_, rfl, fun y => ?_, fun y => ?_⟩⟩))
  · rw [b01_0] at z; rw [z] at K; exact K σ cC_rfl h
  · rw [b01_n] at z y
    rw [if_pos z, if_pos y] at K
    refine k161' (d := d) hB kn ok fun s1 cc hB1 kn1 q1 => ⟨92, rfl, rfl, ?_⟩
    have hex : ∃ f, VI 16 (dO s.B) (Al s.B) (qF (bW s.B)) (qF (bG s.B)) f := ⟨_, q1.choose_spec.choose_spec.1⟩
    obtain ⟨M, M0, M1, M2⟩ := den_all hkB hex
    refine c47k (d := d + 5) (u := 0) (l := 1) hB1 kn1 (by decide) (by decide) (by decide) (by decide) fun s2 c2 hB2 kn2 f2 g2 => ⟨rfl, ?_⟩
    have q2 : KSq s.B s2 := SqC_f2 q1 f2 fun x x1 x2 z => by simp at z; omega
    have lp := loopS (α := Mem) (I := fun i t => (CC σ t ∧ RB s r o t ∧ Kn s.B t ∧ KSq s.B t) ∧ t.2.1 123 0 = jJ (drS s.B x1 i).num ∧ t.2.1 123 1 = jJ ((drS s.B x1 i).den : Nat)) (P := fun i t => G Θ (d + 7) 138 35 [some (.ref 0), some (.int x1), some (.int x2), some (.ref 92), some (.int (nI i))] [] t Q) (bN s.B) ?_ ?_ s2 ⟨⟨cC_tr cc c2, hB2, kn2, q2⟩, g2.1, g2.2⟩
    · exact lp
    · intro t ⟨⟨c1, c2, c3, c4⟩, g3, g4⟩
      obtain ⟨r1, r2, r3, r4⟩ := rB_r c2
      have hn := c2.2.2.1.1.2.2.1.1
      refine B138_35 rfl ?_
      rw [r1, hn]
      refine ⟨r2, r3, fun _ => c49 rfl ⟨_, rfl, ?_⟩, fun q => absurd (nI_le (Nat.le_refl _) (by omega)) q⟩
      rw [rp_i g3 g4]; exact K t c1 ⟨r, o, c2, c3⟩
    · intro i t hi ⟨⟨c1, c2, c3, c4⟩, g3, g4⟩ ih
      obtain ⟨r1, r2, r3, r4⟩ := rB_r c2
      have hB' := c2.2.2.1.1
      have hn := hB'.2.2.1.1
      have vi := vp_in_nI (show i < 16 by omega) (by decide)
      have vl := ViL_C ok c4
      have hp := wP hkB (B := s.B) (c := i) (decide_eq_true hi)
      refine B138_35 rfl ?_
      rw [r1, hn, nI_1, nI_clamp (by omega), hB'.2.2.1.2.2.1 i (by omega), hB'.2.2.1.2.2.2.1 i (by omega), hB'.2.2.1.2.2.2.2.1 i (by omega), (vl i hi).1, (vl i hi).2.1, nI_j (by omega), nI_j (by omega), jJ_mul, jJ_sub, jJ_mul]
      rw [drS_s] at ih
      refine ⟨r2, r3, fun q => absurd q (nI_ge hi (by omega)), fun _ => ⟨r2, r3, vi, fun q => ?_, fun q => ⟨r2, r3, vi, r2, r3, vi, vi, vi, vi, ?_⟩⟩⟩
      · rw [if_neg q, Rat.add_zero] at ih; exact ih t ⟨⟨c1, c2, c3, c4⟩, g3, g4⟩
      · rw [if_pos q] at ih
        obtain ⟨-, w1, w2, w3, w4⟩ := dr_ok (x := x1) hkB (fun c hc => (vl c hc).2.2) M0 M1 M2 hi
        refine c48 (d := d + 4) rfl ⟨g3, g4⟩ w1 (qVi s.B i).den_pos w2 w3 w4 ⟨rfl, ?_⟩
        rw [dr_mk]
        have f3 := frW_f t 123 0 1 (drS s.B x1 i + qF (bW s.B) i * (qF (bG s.B) i - qVi s.B i))
        obtain ⟨a, b, c⟩ := RB_x c2 c3 f3
        obtain ⟨g5, g6⟩ := frW_0 t 123 (i := 0) (j := 1) (by decide) (drS s.B x1 i + qF (bW s.B) i * (qF (bG s.B) i - qVi s.B i))
        exact ih _ ⟨⟨cC_tr c1 a, b, c, SqC_f2 c4 f3 fun x x1 x2 z => by simp at z; omega⟩, g5, g6⟩
  · rw [b01_n] at z; rw [b01_0] at y; rw [if_pos z, y] at K; exact K σ cC_rfl h
theorem k247 {x1 x2 : Int32} (h : RR s σ) (ok : OkS s) (K : ∀ σ', CR σ σ' → RR s σ' → Q (some (.long (qDr s.B x1 x2))) σ') : Cm Θ (d + 6) 247 [.ref 124, .int x1, .int x2] σ Q := by
  have h16 := bk16 ok
  have hkB := ok.2.1.1
  have hlv : bN s.B ≤ s.lv := by have := hkB.2.1; omega
  have l0 : x1 < 0 ↔ x1.toInt < 0 := i_lt
  have l9 : (99 : Int32) < x1 ↔ 99 < x1.toInt := i_lt
  unfold qDr at K
  have no : (x1.toInt < 0 ∨ 99 < x1.toInt) → Q (some (.long (-1000000000000))) σ := fun q => by
    rw [if_neg (by rw [x099]; omega)] at K; exact K σ cR_rfl h
  refine K247 (B247_0 ?_)
  rw [l0, l9]
  refine ⟨fun z => no (Or.inl z), fun z => ⟨fun z2 => no (Or.inr z2), fun z2 => c213 ⟨_, rfl, fun y => ?_, fun y => ?_⟩⟩⟩
  · rw [b01_n] at y
    rw [if_pos (x099.mpr (by omega)), if_pos y] at K
    refine k198 (d := d + 3) h ok fun s1 cc hR1 o1 => ⟨rfl, c219 hR1.2.1.2.1.1 h16 ⟨_, rfl, ?_⟩⟩
    refine k217 (d := d + 1) hR1 ok (fun c hc => (o1 c hc).1) (dOk s.B _ _) fun s2 q2 hR2 g2 => ⟨rfl, ?_⟩
    have vl := ViL_R ok g2
    have hex : ∃ f, VI 16 (dO s.B) (Al s.B) (qF (bW s.B)) (qF (bG s.B)) f := ⟨_, g2.choose_spec.choose_spec.1⟩
    obtain ⟨M, M0, M1, M2⟩ := den_all hkB hex
    refine c211k (d := d + 4) (u := 0) (l := 1) hR2 (by decide) (by decide) (by decide) (by decide) fun s3 q3 hR3 ft3 g3 => ⟨rfl, ?_⟩
    have lp := loopS (α := Mem) (I := fun i t => (QR σ t ∨ (CR σ t ∧ True)) ∧ (CR σ t ∧ RR s t ∧ Ft [] s2 t) ∧ t.2.1 124 44 = jJ (drS s.B x1 i).num ∧ t.2.1 124 45 = jJ ((drS s.B x1 i).den : Nat)) (P := fun i t => G Θ (d + 6) 247 41 [some (.ref 124), some (.int x1), some (.int x2), some (.int (nI i))] [] t Q) (bN s.B) ?_ ?_ s3 ⟨Or.inr ⟨cR_tr cc (cR_tr q2.1 q3.1), True.intro⟩, ⟨cR_tr cc (cR_tr q2.1 q3.1), hR3, ft3⟩, g3.1, g3.2⟩
    · exact lp
    · intro t ⟨_, ⟨c1, c2, c3⟩, g3, g4⟩
      refine B247_41 ?_
      rw [c2.2.1.2.1.1]
      refine ⟨fun _ => c214 ⟨_, rfl, ?_⟩, fun q => absurd (nI_le (Nat.le_refl _) (by omega)) q⟩
      rw [rp_i g3 g4]; exact K t c1 c2
    · intro i t hi ⟨_, ⟨c1, c2, c3⟩, g3, g4⟩ ih
      have vi := vp_in_nI (show i < 16 by omega) (by decide)
      have hp := wP hkB (B := s.B) (c := i) (decide_eq_true hi)
      have e154 : t.2.1 154 = s2.2.1 154 := (c3.1 154 (by simp) (by decide)).2.1
      have e155 : t.2.1 155 = s2.2.1 155 := (c3.1 155 (by simp) (by decide)).2.1
      refine B247_41 ?_
      rw [c2.2.1.2.1.1, nI_1, nI_clamp (by omega), c2.2.1.2.1.2.2.1 i (by omega), c2.2.1.2.1.2.2.2.1 i (by omega), c2.2.1.2.1.2.2.2.2.1 i (by omega), e154, e155, (vl i hi).1, (vl i hi).2.1, nI_j (by omega), nI_j (by omega), jJ_mul, jJ_sub, jJ_mul]
      rw [drS_s] at ih
      refine ⟨fun q => absurd q (nI_ge hi (by omega)), fun _ => ⟨vi, fun q => ?_, fun q => ⟨vi, vi, vi, vi, vi, ?_⟩⟩⟩
      · rw [if_neg q, Rat.add_zero] at ih; exact ih t ⟨Or.inr ⟨c1, True.intro⟩, ⟨c1, c2, c3⟩, g3, g4⟩
      · rw [if_pos q] at ih
        obtain ⟨-, w1, w2, w3, w4⟩ := dr_ok (x := x1) hkB (fun c hc => (vl c hc).2.2) M0 M1 M2 hi
        refine c212 (d := d + 3) ⟨g3, g4⟩ w1 (qVi s.B i).den_pos w2 w3 w4 ⟨rfl, ?_⟩
        rw [dr_mk]
        have qq := qR_fw t (drS s.B x1 i + qF (bW s.B) i * (qF (bG s.B) i - qVi s.B i))
        obtain ⟨g5, g6⟩ := frW_0 t 124 (i := 44) (j := 45) (by decide) (drS s.B x1 i + qF (bW s.B) i * (qF (bG s.B) i - qVi s.B i))
        exact ih _ ⟨Or.inr ⟨cR_tr c1 qq.1, True.intro⟩, ⟨cR_tr c1 qq.1, RR_Q c2 qq.2, c3.fw _⟩, g5, g6⟩
  · rw [b01_0] at y; rw [if_pos (x099.mpr (by omega)), y] at K; exact K σ cR_rfl h
end drift
