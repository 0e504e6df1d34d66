/-! THE CALLS: luck, upto, within -/
noncomputable def upT (B : Bk) (x : Int32) : Nat → Bool := fun c => decide (c < bN B) && decide (¬ x < nI (bY B c))
noncomputable def qUp (B : Bk) (x1 x2 : Int32) : Int64 := if dP (isN x1 100) = true then (if dP (isN x2 2) = true then rp (qC B (dO B) (upT B x1)) x2 else -1) else -1
noncomputable def qWi (B : Bk) : Int32 := nI (prC (bN B) (fun i j => decide (bY B i = bY B j)) (gp (dO B) (bG B)))
theorem upT_lt {B : Bk} {x : Int32} {c : Nat} (h : upT B x c = true) : c < bN B := by
  unfold upT at h
  rw [Bool.and_eq_true, decide_eq_true_eq] at h
  exact h.1
def upM (B : Bk) (x : Int32) (i : Nat) : Nat → Bool := fun c => decide (c < i) && decide (¬ x < nI (bY B c))
theorem upM_s {B : Bk} {x : Int32} {i : Nat} (hi : i < 16) : (x < nI (bY B i) → sX (upM B x (i + 1)) = sX (upM B x i)) ∧ (¬ x < nI (bY B i) → sX (upM B x (i + 1)) = sX (upM B x i) ||| ((1 : Int32) <<< (nI i &&& 31))) := by
  refine ⟨fun h => sX_congr fun c hc => ?_, fun h => ?_⟩
  · unfold upM
    by_cases q : c = i
    · rw [q, decide_eq_false (p := ¬ x < nI (bY B i)) (by simpa using h), Bool.and_false, Bool.and_false]
    · rw [show decide (c < i + 1) = decide (c < i) by simp; omega]
  · rw [sX_add1 _ hi]
    refine sX_congr fun c hc => ?_
    unfold upM
    by_cases q : c = i
    · rw [q, decide_eq_true (show i < i + 1 by omega), decide_eq_true (p := ¬ x < nI (bY B i)) h]; simp
    · rw [show decide (c < i + 1) = decide (c < i) by simp; omega, show decide (c = i) = false from decide_eq_false q, Bool.or_false]
theorem upM_0 {B : Bk} {x : Int32} : (0 : Int32) = sX (upM B x 0) := by
  rw [sX_0]; exact sX_congr fun c _ => by simp [upM]
section ans6
variable {Θ : Th} {d : Nat} {σ : Mem} {Q : Po} {s : St}
theorem ownJ_s {B : Bk} {x : Int32} {i : Nat} : ownJ B x (i + 1) = ownJ B x i + (if nI (bJ B i) = x then 1 else 0) := by
  show ownJ B x i + (if decide (nI (bJ B i) = x) = true then 1 else 0) = _
  by_cases q : nI (bJ B i) = x
  · rw [decide_eq_true q, if_pos q]; rfl
  · rw [decide_eq_false q, if_neg q]; rfl
theorem x09 {x : Int32} : (dP (isN x 10) = true ↔ 0 ≤ x.toInt ∧ x.toInt ≤ 9) := by
  rw [dP_iff]; unfold isN
  refine ⟨fun h => ⟨h.1, by have := h.2; omega⟩, fun h => ⟨h.1, by omega⟩⟩
theorem k136 {x1 x2 : Int32} (h : RC s σ) (ok : OkS s) (K : ∀ σ', CC σ σ' → RC s σ' → Q (some (.long (qLk s.B x1 x2))) σ') : Cm Θ (d + 40) 136 [.ref 0, .int x1, .int x2] σ Q := by
  obtain ⟨r, o, hB, kn⟩ := id h
  obtain ⟨r1, r2, r3, r4⟩ := rB_r hB
  have h16 := bk16 ok
  have hkB := ok.2.1.1
  have hlv : bN s.B ≤ s.lv := by have := hkB.2.1; omega
  have l0 : x1 < 0 ↔ x1.toInt < 0 := i_lt
  have l9 : (9 : Int32) < x1 ↔ 9 < x1.toInt := i_lt
  unfold qLk at K
  have no10 : (x1.toInt < 0 ∨ 9 < x1.toInt) → Q (some (.long (-1))) σ := fun q => by
    rw [if_neg (by rw [x09]; omega)] at K; exact K σ cC_rfl h
  refine K136 (B136_0 ?_)
  rw [l0, l9]
  refine ⟨fun z => no10 (Or.inl z), fun z => ⟨fun z2 => no10 (Or.inr z2), fun z2 => c155 ⟨_, rfl, fun y => ?_, fun y => ?_⟩⟩⟩
  · have hx : dP (isN x1 10) = true := x09.mpr (by omega)
    rw [b01_n] at y
    rw [if_pos hx, if_pos y] at K
    have hB' := hB.2.2.1.1
    have hn := hB'.2.2.1.1
    refine loopN (P := fun i => G Θ (d + 40) 136 26 [some (.ref 0), some (.int x1), some (.int x2), some (.int (nI (ownJ s.B x1 i))), some (.int (nI i)), none] [] σ Q) (bN s.B) ?_ ?_
    · refine B136_26 ?_
      rw [r1, hn]
      have own := cN_max (fun c => decide (nI (bJ s.B c) = x1)) (bN s.B)
      have own : ownJ s.B x1 (bN s.B) ≤ bN s.B := own
      refine ⟨r2, r3, fun _ => ⟨fun q => ?_, fun q => ?_⟩, fun q => absurd (nI_le (Nat.le_refl _) (by omega)) q⟩
      · have q' : ¬ ownJ s.B x1 (bN s.B) = 0 := fun e => q (by rw [e]; rfl)
        rw [if_neg q'] at K
        refine k135 (d := d + 32) hB kn ok hx fun s1 cc hB1 kn1 g1 vb => ⟨_, rfl, ?_⟩
        obtain ⟨t1, t2, t3, t4⟩ := rB_r hB1
        have hn1 := hB1.2.2.1.1.2.2.1.1
        obtain ⟨f, v1, v2, v3⟩ := g1
        try dsimp only
        rw [t1, hn1, show nI (offS s.B x1 (bN s.B)) = iI ((offS s.B x1 (bN s.B) : Nat) : Int) from iI_nI _]
        refine ⟨t2, t3, ?_⟩
        have dd : d + 39 = (d + 37 - bN s.B) + bN s.B + 2 := by omega
        have c37' := fun (Q' : Po) => c37 (Θ := Θ) (Q := Q') (d := d + 37 - bN s.B) (r := 98) (n := bN s.B) (s := ownJ s.B x1 (bN s.B)) (mm := ((offS s.B x1 (bN s.B) : Nat) : Int)) (f := gD (bW s.B) (bG s.B) f) (σ := s1) rfl (by decide) h16 (fun c hc => ⟨(v2 c hc).2.2, gD_le hkB (fun c hc => (v2 c hc).1) hc⟩) (by omega) (by omega) hB1.2.2.2.2.2.2
        rw [← dd] at c37'
        refine c37' _ fun s2 f2 f6 z2 => ⟨_, rfl, ?_⟩
        have e110 : ∀ j, j < 3 → s2.1 110 j = s1.1 110 j := fun j hj => f6 j (by omega)
        have hB2 := RB_113 hB1 f2 (f2 0 (by decide)).2.2 (fun x hx => by simp at hx; omega) z2
        have kn2 : Kn s.B s2 := Kn_fr kn1 f2 (by rw [(f2 0 (by decide)).1]; exact ⟨rfl, rfl⟩) ⟨e110 0 (by omega), e110 1 (by omega), e110 2 (by omega)⟩ (fun x hx => by simp at hx; omega)
        obtain ⟨u1, u2, u3, u4⟩ := rB_r hB2
        have hn2 := hB2.2.2.1.1.2.2.1.1
        try dsimp only
        rw [u1, hn2]
        refine ⟨u2, u3, c39 (by omega) own ⟨_, rfl, ?_⟩⟩
        have b1 := cw_b (fun c => ((gD (bW s.B) (bG s.B) f c : Nat) : Int)) (ownJ s.B x1 (bN s.B)) ((offS s.B x1 (bN s.B) : Nat) : Int) h16
        have b2 := bin_b (own := ownJ s.B x1 (bN s.B)) h16
        have b3 := bin_pos _ _ own
        try dsimp only
        rw [nI_j (by omega), nI_j (by omega)]
        refine c47k (d := d + 38) hB2 kn2 (by omega) (by omega) b3 (by omega) fun s3 c3 hB3 kn3 f3 g3 => ⟨rfl, c49 rfl ⟨_, rfl, ?_⟩⟩
        have er : rowL (bN s.B) (fun c => ((gD (bW s.B) (bG s.B) f c : Nat) : Int)) = rowL (bN s.B) (fun c => ((gD (bW s.B) (bG s.B) (qKg s.B) c : Nat) : Int)) := rowL_congr _ fun c hc => by rw [gDk h16 v1 hc]
        rw [rp_i g3.1 g3.2, er]
        exact K s3 (cC_tr cc (cC_tr (cC_fr f2 fun x hx => by simp at hx; omega) c3)) ⟨r, o, hB3, kn3⟩
      · have q' : ownJ s.B x1 (bN s.B) = 0 := by
          have := congrArg Int32.toInt q
          rw [nI_int (by omega)] at this
          have e : (0 : Int32).toInt = 0 := by decide
          omega
        rw [if_pos q'] at K; exact K σ cC_rfl h
    · intro i hi ih
      refine B136_26 ?_
      rw [r1, hn, nI_clamp (by omega), hB'.2.2.1.2.1 i (by omega), nI_1]
      rw [ownJ_s] at ih
      refine ⟨r2, r3, fun q => absurd q (nI_ge hi (by omega)), fun _ => ⟨r2, r3, vp_in_nI (by omega) (by decide), fun q => ?_, fun q => ?_⟩⟩
      · rw [if_neg q, Nat.add_zero] at ih; exact ih
      · rw [if_pos q] at ih; rw [nI_1]; exact ih
  · rw [b01_0] at y
    rw [if_pos (x09.mpr (by omega)), y] at K; exact K σ cC_rfl h
theorem k244 {x1 x2 : Int32} (h : RR s σ) (ok : OkS s) (K : ∀ σ', CR σ σ' → RR s σ' → Q (some (.long (qLk s.B x1 x2))) σ') : Cm Θ (d + 5) 244 [.ref 124, .int x1, .int x2] σ Q := by
  have h16 := bk16 ok
  have hkB := ok.2.1.1
  have hlv : bN s.B ≤ s.lv := by have := hkB.2.1; omega
  have hn := h.2.1.2.1.1
  unfold qLk at K
  refine K244 (B244_0 ?_)
  refine loopN (P := fun i => G Θ (d + 5) 244 5 [some (.ref 124), some (.int x1), some (.int x2), some (.int (nI (ownJ s.B x1 i))), some (.int (nI i)), none, none, none, none, none, none, none] [] σ Q) (bN s.B) ?_ ?_
  · have own : ownJ s.B x1 (bN s.B) ≤ bN s.B := cN_max _ _
    refine B244_5 ?_
    rw [hn]
    refine ⟨fun _ => c241 ⟨_, rfl, fun z => ?_, fun z => ⟨fun q => ?_, fun q => c213 ⟨_, rfl, fun y => ?_, fun y => ?_⟩⟩⟩, fun q => absurd (nI_le (Nat.le_refl _) (by omega)) q⟩
    · rw [b01_0] at z; rw [z] at K; exact K σ cR_rfl h
    · rw [b01_n] at z
      have q' : ownJ s.B x1 (bN s.B) = 0 := by
        have := congrArg Int32.toInt q
        rw [nI_int (by omega)] at this
        have e : (0 : Int32).toInt = 0 := by decide
        omega
      rw [if_pos z, if_pos q'] at K
      have := K σ cR_rfl h
      split at this <;> exact this
    · rw [b01_n] at z y
      have q' : ¬ ownJ s.B x1 (bN s.B) = 0 := fun e => q (by rw [e]; rfl)
      rw [if_pos z, if_pos y, if_neg q'] at K
      refine k198 (d := d + 2) h ok fun s1 cc hR1 o1 => ⟨rfl, ?_⟩
      refine k222 (d := d + 2) hR1 ok o1 fun s2 f q2 hR2 v1 v2 => ⟨rfl, ?_⟩
      refine k242 (d := d + 3) hR2 ok v1 v2 fun vb => ⟨_, rfl, ?_⟩
      refine c244_85 (d := d + 3) (w := bW s.B) (g := bG s.B) (f := f) hR2.2.1.2.1.1 h16 (fun c hc => ⟨hR2.2.1.2.1.2.2.2.2.1 c (by omega), (wP hkB (decide_eq_true hc)).2.1⟩) (fun c hc => bk_g hR2.2.1 hkB hc) (fun c hc => ⟨(v2 c hc).2, (v2 c hc).1⟩) (by omega) vb fun rr hr => ?_
      have q3 := qR_fw s2 rr
      have fin := K _ (cR_tr cc (cR_tr q2.1 q3.1)) (RR_Q hR2 q3.2)
      have er : rowL (bN s.B) (fun c => ((gD (bW s.B) (bG s.B) f c : Nat) : Int)) = rowL (bN s.B) (fun c => ((gD (bW s.B) (bG s.B) (qKg s.B) c : Nat) : Int)) := rowL_congr _ fun c hc => by rw [gDk h16 v1 hc]
      rw [← er, ← hr] at fin
      exact fin
    · rw [b01_0] at y; rw [b01_n] at z; rw [if_pos z, y] at K; exact K σ cR_rfl h
  · intro i hi ih
    refine B244_5 ?_
    rw [hn, nI_clamp (by omega), h.2.1.2.1.2.1 i (by omega), nI_1]
    rw [ownJ_s] at ih
    refine ⟨fun q => absurd q (nI_ge hi (by omega)), fun _ => ⟨vp_in_nI (by omega) (by decide), fun q => ?_, fun q => ?_⟩⟩
    · rw [if_neg q, Nat.add_zero] at ih; rw [show nI (ownJ s.B x1 i) + 0 = nI (ownJ s.B x1 i) from Int32.add_zero _]; exact ih
    · rw [if_pos q] at ih; rw [nI_1]; exact ih
/-- upto(year) -/
theorem k137 {x1 x2 : Int32} (h : RC s σ) (ok : OkS s) (K : ∀ σ', CC σ σ' → RC s σ' → Q (some (.long (qUp s.B x1 x2))) σ') : Cm Θ (d + 7) 137 [.ref 0, .int x1, .int x2] σ Q := by
  obtain ⟨r, o, hB, kn⟩ := id h
  obtain ⟨r1, r2, r3, r4⟩ := rB_r hB
  have h16 := bk16 ok
  have hkB := ok.2.1.1
  have hlv : bN s.B ≤ s.lv := by have := hkB.2.1; omega
  have hB' := hB.2.2.1.1
  have hn := hB'.2.2.1.1
  unfold qUp at K
  refine K137 (B137_0 (c156 ⟨_, rfl, fun z => ?_, fun z => c155 ⟨_, rfl, fun y => ?_, fun y => ?_⟩⟩))
  · rw [b01_0] at z; rw [z] at K; exact K σ cC_rfl h
  · rw [b01_n] at z y
    rw [if_pos z, if_pos y] at K
    have lp := loopN (P := fun i => G Θ (d + 7) 137 23 [some (.ref 0), some (.int x1), some (.int x2), some (.int (sX (upM s.B x1 i))), some (.int (nI i))] [] σ Q) (bN s.B) ?_ ?_
    · rw [← upM_0] at lp; exact lp
    · refine B137_23 ?_
      rw [r1, hn]
      refine ⟨r2, r3, fun _ => ⟨r2, r3, ?_⟩, fun q => absurd (nI_le (Nat.le_refl _) (by omega)) q⟩
      refine k160' (d := d + 3) hB kn ok fun s1 cc hB1 kn1 o1 rd => ⟨83, rfl, rfl, ?_⟩
      refine c68 (d := d + 1) (D := dO s.B) (T := upT s.B x1) (Or.inr rfl) (Fit_of hB1.2.2.1.1 hkB o1 rfl) (dOk s.B _ _) (fun c hc => upT_lt hc) fun s2 f2 q2 => ⟨rfl, ?_⟩
      obtain ⟨f, q, w1, w2, -, w4, -⟩ := q2
      have e := qC_is hkB (fun c hc => upT_lt hc) ⟨f, w1, w2⟩
      rw [← e] at K
      refine c49 rfl ⟨_, rfl, ?_⟩
      rw [rp_i w4.1 w4.2]
      exact K s2 (cC_tr cc (cC_fr f2 fun x hx => by simp at hx; omega)) ⟨r, o, RB_fr hB1 f2 (f2 0 (by decide)).2.2 (fun x hx => by simp at hx; omega), Kn_fr kn1 f2 (by rw [(f2 0 (by decide)).1]; exact ⟨rfl, rfl⟩) (by rw [(f2 110 (by decide)).1]; exact ⟨rfl, rfl, rfl⟩) fun x hx => by simp at hx; omega⟩
    · intro i hi ih
      refine B137_23 ?_
      obtain ⟨u1, u2⟩ := upM_s (B := s.B) (x := x1) (i := i) (by omega)
      rw [r1, hn, nI_clamp (by omega), hB'.2.2.1.2.2.1 i (by omega), nI_1]
      refine ⟨r2, r3, fun q => absurd q (nI_ge hi (by omega)), fun _ => ⟨r2, r3, vp_in_nI (by omega) (by decide), fun q => ?_, fun q => ?_⟩⟩
      · rw [u1 q] at ih; exact ih
      · rw [u2 q] at ih; exact ih
  · rw [b01_n] at z; rw [b01_0] at y; rw [if_pos z, y] at K; exact K σ cC_rfl h
theorem x099 {x : Int32} : (dP (isN x 100) = true ↔ 0 ≤ x.toInt ∧ x.toInt ≤ 99) := by
  rw [dP_iff]; unfold isN
  refine ⟨fun h => ⟨h.1, by have := h.2; omega⟩, fun h => ⟨h.1, by omega⟩⟩
theorem k245 {x1 x2 : Int32} (h : RR s σ) (ok : OkS s) (K : ∀ σ', CR σ σ' → RR s σ' → Q (some (.long (qUp s.B x1 x2))) σ') : Cm Θ (d + 5) 245 [.ref 124, .int x1, .int x2] σ Q := by
  have h16 := bk16 ok
  have hkB := ok.2.1.1
  have hlv : bN s.B ≤ s.lv := by have := hkB.2.1; omega
  have l0 : x1 < 0 ↔ x1.toInt < 0 := i_lt
  have l9 : (99 : Int32) < x1 ↔ 99 < x1.toInt := i_lt
  unfold qUp at K
  have no : (x1.toInt < 0 ∨ 99 < x1.toInt) → Q (some (.long (-1))) σ := fun q => by
    rw [if_neg (by rw [x099]; omega)] at K; exact K σ cR_rfl h
  refine K245 (B245_0 ?_)
  rw [l0, l9]
  refine ⟨fun z => no (Or.inl z), fun z => ⟨fun z2 => no (Or.inr z2), fun z2 => c213 ⟨_, rfl, fun y => ?_, fun y => ?_⟩⟩⟩
  · rw [b01_n] at y
    rw [if_pos (x099.mpr (by omega)), if_pos y] at K
    refine k198 (d := d + 2) h ok fun s1 cc hR1 o1 => ⟨rfl, ?_⟩
    have lp := loopN (P := fun i => G Θ (d + 5) 245 30 [some (.ref 124), some (.int x1), some (.int x2), some (.int (sX (upM s.B x1 i))), some (.int (nI i))] [] s1 Q) (bN s.B) ?_ ?_
    · rw [← upM_0] at lp; exact lp
    · refine B245_30 ?_
      rw [hR1.2.1.2.1.1]
      refine ⟨fun _ => ?_, fun q => absurd (nI_le (Nat.le_refl _) (by omega)) q⟩
      refine c217 (d := d) (T := upT s.B x1) hR1.2.1.2.1.1 h16 (fun c hc => ⟨hR1.2.1.2.1.2.2.2.2.1 c (by omega), (wP hkB (decide_eq_true hc)).1, (wP hkB (decide_eq_true hc)).2.1⟩) (fun c hc => bk_g hR1.2.1 hkB hc) (fun c hc => (o1 c hc).1) (dOk s.B _ _) (fun c hc => upT_lt hc) fun s2 f2 q2 => ⟨rfl, ?_⟩
      obtain ⟨f, q, w1, w2, -, w4, -⟩ := q2
      have e := qC_is hkB (fun c hc => upT_lt hc) ⟨f, w1, w2⟩
      rw [← e] at K
      have qq := qR_ft f2 fun x hx => by simp at hx; omega
      refine c214 ⟨_, rfl, ?_⟩
      rw [rp_i w4.1 w4.2]
      exact K s2 (cR_tr cc qq.1) (RR_Q hR1 qq.2)
    · intro i hi ih
      refine B245_30 ?_
      obtain ⟨u1, u2⟩ := upM_s (B := s.B) (x := x1) (i := i) (by omega)
      rw [hR1.2.1.2.1.1, nI_clamp (by omega), hR1.2.1.2.1.2.2.1 i (by omega), nI_1]
      refine ⟨fun q => absurd q (nI_ge hi (by omega)), fun _ => ⟨vp_in_nI (by omega) (by decide), fun q => ?_, fun q => ?_⟩⟩
      · rw [u1 q] at ih; rw [show sX (upM s.B x1 i) ||| 0 = sX (upM s.B x1 i) from Int32.or_zero]; exact ih
      · rw [u2 q] at ih; exact ih
  · rw [b01_0] at y; rw [if_pos (x099.mpr (by omega)), y] at K; exact K σ cR_rfl h
/-- within() -/
theorem k139 (h : RC s σ) (ok : OkS s) (K : ∀ σ', CC σ σ' → RC s σ' → Q (some (.int (qWi s.B))) σ') : Cm Θ (d + 4) 139 [.ref 0] σ Q := by
  obtain ⟨r, o, hB, kn⟩ := id h
  refine K139 (B139_0 (k160' (d := d) hB kn ok fun s1 cc hB1 kn1 o1 rd => ⟨83, rfl, rfl, ?_⟩))
  obtain ⟨r1, r2, r3, r4⟩ := rB_r hB1
  try dsimp only
  rw [r1]
  exact ⟨r2, r3, ro (c83 (d := d + 1) (yr := true) o1 rd) (K s1 cc ⟨r, o, hB1, kn1⟩)⟩
theorem k246 (h : RR s σ) (ok : OkS s) (K : ∀ σ', CR σ σ' → RR s σ' → Q (some (.int (qWi s.B))) σ') : Cm Θ (d + 4) 246 [.ref 124] σ Q := by
  refine K246 (B246_0 (k198 (d := d + 1) h ok fun s1 cc hR1 o1 => ⟨rfl, c246_2 hR1.2.1 ok.2.1.1 o1 ?_⟩))
  rw [pr_ys (dO s.B) (bG s.B) (fun a b => decide (bY s.B a = bY s.B b)) (fun a b => by congr 1; exact propext ⟨fun h => h.symm, fun h => h.symm⟩)]
  exact K s1 cc hR1
end ans6
