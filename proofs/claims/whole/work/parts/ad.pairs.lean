/-! THE CALLS: worse, clash, oddest, beside -/
theorem cN_sN (p : Nat → Bool) : ∀ n, cN n p = sN n (fun k => if p k = true then 1 else 0)
  | 0 => rfl
  | n + 1 => by rw [cN_s, cN_sN p n]; rfl
theorem gp_0 (D : Nat → Nat → Bool) (g : Nat → Nat) (a b : Nat) (e : Nat → Nat → Bool) (he : e a b = e b a) : (if (decide (0 < gO D g a b) && e a b) = true then 1 else 0) + (if (decide (0 < gO D g b a) && e b a) = true then 1 else 0) = if (e a b && decide (0 < gp D g a b)) = true then 1 else 0 := by
  rw [← he]
  unfold gp
  rcases gp_one D g a b with h | h
  · rw [h]; cases e a b <;> simp
  · rw [h]; cases e a b <;> simp
theorem pr_ys (D : Nat → Nat → Bool) (g : Nat → Nat) (e : Nat → Nat → Bool) (he : ∀ a b, e a b = e b a) (n : Nat) : sN n (fun a => cN n (fun b => decide (0 < gO D g a b) && e a b)) = prC n e (gp D g) := by
  unfold prC
  have h1 : sN n (fun a => cN n (fun b => decide (0 < gO D g a b) && e a b)) = sN n (fun a => sN n (fun b => if (decide (0 < gO D g a b) && e a b) = true then 1 else 0)) := sN_congr n fun a _ => cN_sN _ n
  rw [h1, sN_tri (fun a b => if (decide (0 < gO D g a b) && e a b) = true then 1 else 0) (fun a => by rw [gO_0]; simp) n]
  refine sN_congr n fun i _ => ?_
  rw [cN_sN]
  exact sN_congr i fun j _ => gp_0 D g i j e (he i j)
theorem pr_no (D : Nat → Nat → Bool) (g : Nat → Nat) (n : Nat) : sN n (fun a => cN n (fun b => decide (0 < gO D g a b))) = prC n (fun i j => !false || decide (i = j)) (gp D g) := by
  have := pr_ys D g (fun _ _ => true) (fun _ _ => rfl) n
  have e1 : (fun a => cN n (fun b => decide (0 < gO D g a b) && true)) = fun a => cN n (fun b => decide (0 < gO D g a b)) := by funext a; congr 1; funext b; rw [Bool.and_true]
  rw [e1] at this
  rw [this]
  rfl
theorem sN_half (D : Nat → Nat → Bool) (g : Nat → Nat) (n : Nat) : sN n (fun i => sN n (gp D g i)) / 2 = sN n (fun a => sN n (gO D g a)) := by
  have e1 : sN n (fun i => sN n (gp D g i)) = sN n (fun i => sN n (gO D g i)) + sN n (fun i => sN n (fun j => gO D g j i)) := by
    rw [← sN_add]
    exact sN_congr n fun i _ => sN_add _ _ n
  have e2 := sN_tri (gO D g) (gO_0 D g) n
  have e3 := sN_tri (fun i j => gO D g j i) (gO_0 D g) n
  have e4 : sN n (fun i => sN i (fun j => gO D g j i + gO D g i j)) = sN n (fun i => sN i (fun j => gO D g i j + gO D g j i)) := sN_congr n fun i _ => sN_congr i fun j _ => Nat.add_comm _ _
  rw [e1]
  have e5 : sN n (fun i => sN n (fun j => gO D g j i)) = sN n (fun a => sN n (gO D g a)) := by rw [e2]; exact e3.trans e4
  rw [e5]; omega
theorem mx_pair (D : Nat → Nat → Bool) (g : Nat → Nat) (n : Nat) : mxS n (fun a => mxS n (gO D g a)) = mxS n (fun i => mxS i (gp D g i)) := by
  apply Nat.le_antisymm
  · refine mxS_le n fun a ha => mxS_le n fun b hb => ?_
    rcases Nat.lt_trichotomy a b with q | q | q
    · exact Nat.le_trans (Nat.le_trans (Nat.le_add_left _ _) (mxS_ge (f := gp D g b) b a q)) (mxS_ge (f := fun i => mxS i (gp D g i)) n b hb)
    · rw [q, gO_0]; exact Nat.zero_le _
    · exact Nat.le_trans (Nat.le_trans (Nat.le_add_right _ _) (mxS_ge (f := gp D g a) a b q)) (mxS_ge (f := fun i => mxS i (gp D g i)) n a ha)
  · refine mxS_le n fun i hi => mxS_le i fun j hj => ?_
    have g1 : gO D g i j ≤ mxS n (fun a => mxS n (gO D g a)) := Nat.le_trans (mxS_ge (f := gO D g i) n j (by omega)) (mxS_ge (f := fun a => mxS n (gO D g a)) n i hi)
    have g2 : gO D g j i ≤ mxS n (fun a => mxS n (gO D g a)) := Nat.le_trans (mxS_ge (f := gO D g j) n i hi) (mxS_ge (f := fun a => mxS n (gO D g a)) n j (by omega))
    unfold gp
    rcases gp_one D g i j with h | h
    · rw [h]; omega
    · rw [h]; omega
theorem odd_at (n : Nat) (D : Nat → Nat → Bool) (g : Nat → Nat) : ∀ k, (fd k (odF n D g) (-1, 0, 0)).1 = -1 ∨ ∃ i, i < k ∧ fd k (odF n D g) (-1, 0, 0) = ((i : Int), foN n D g i, foS n D g i)
  | 0 => Or.inl rfl
  | k + 1 => by
    show (odF n D g k (fd k (odF n D g) (-1, 0, 0))).1 = -1 ∨ ∃ i, i < k + 1 ∧ odF n D g k (fd k (odF n D g) (-1, 0, 0)) = _
    unfold odF
    split
    · exact Or.inr ⟨k, by omega, rfl⟩
    · rcases odd_at n D g k with h | ⟨i, h1, h2⟩
      · exact Or.inl h
      · exact Or.inr ⟨i, by omega, h2⟩
section ans1
variable {Θ : Th} {d : Nat} {σ : Mem} {Q : Po} {s : St}
theorem RC_q {r o : Nat} {σ' : Mem} {ls : List Nat} (h : RB s r o σ) (f : Fr ls σ σ') (hr : σ'.2.2 0 = σ.2.2 0) (hl : ∀ x, x ∈ ls → x = 0 ∨ (3 ≤ x ∧ x ≤ 11) ∨ (83 ≤ x ∧ x ≠ 113 ∧ x < 124)) (kn : Kn s.B σ') : CC σ σ' ∧ RC s σ' :=
  ⟨cC_fr f fun x hx => by have := hl x hx; omega, r, o, RB_fr h f hr fun x hx => by have := hl x hx; omega, kn⟩
theorem k160' {r o : Nat} (h : RB s r o σ) (hk : Kn s.B σ) (ok : OkS s) (K : ∀ σ', CC σ σ' → RB s r o σ' → Kn s.B σ' → OrC 83 (dO s.B) σ' → Rd r s.B σ' → Q (some (.ref 83)) σ') : Cm Θ (d + 3) 160 [.ref 0] σ Q := by
  refine k160 h hk ok fun s1 f1 rf1 e16 kn1 o1 => ?_
  have hB1 := RB_fr h f1 rf1 fun x hx => by simp at hx; omega
  exact K s1 (cC_fr f1 fun x hx => by simp at hx; omega) hB1 kn1 o1 (Rd_of hB1.2.2.1.1 ok.2.1.1)
theorem k198 (h : RR s σ) (ok : OkS s) (K : ∀ σ', CR σ σ' → RR s σ' → OrR s.B (dO s.B) σ' → Q none σ') : Cm Θ (d + 2) 198 [.ref 124] σ Q := by
  refine Cm.mono (c198 h.2.1 ok.2.1.1) fun v s1 ⟨e, f1, o1⟩ => ?_
  subst e
  have q := qR_fr f1 fun x hx => by simp at hx; omega
  exact K s1 q.1 (RR_Q h q.2) o1
noncomputable def qWs (B : Bk) (x1 x2 : Int32) : Int32 := if dP (isN x1 (bN B)) = true then (if dP (isN x2 (bN B)) = true then (if dO B x1.toNatClampNeg x2.toNatClampNeg = true then (if dO B x2.toNatClampNeg x1.toNatClampNeg = true then 2 else 1) else 0) else -1) else -1
theorem k122 {x1 x2 : Int32} (h : RC s σ) (ok : OkS s) (K : ∀ σ', CC σ σ' → RC s σ' → Q (some (.int (qWs s.B x1 x2))) σ') : Cm Θ (d + 4) 122 [.ref 0, .int x1, .int x2] σ Q := by
  obtain ⟨r, o, hB, kn⟩ := id h
  obtain ⟨r1, r2, r3, r4⟩ := rB_r hB
  have h16 := bk16 ok
  have hn := hB.2.2.1.1.2.2.1.1
  refine K122 (B122_0 ?_)
  rw [r1]
  refine ⟨r2, r3, c12' r3 hn (by omega) ⟨_, rfl, fun z => ?_, fun z => ?_⟩⟩
  · rw [b01_0] at z
    have e : qWs s.B x1 x2 = -1 := by unfold qWs; rw [z]; rfl
    rw [e] at K
    exact K σ cC_rfl h
  rw [b01_n] at z
  rw [r1]
  refine ⟨r2, r3, c12' r3 hn (by omega) ⟨_, rfl, fun y => ?_, fun y => ?_⟩⟩
  · rw [b01_n] at y
    refine k160' (d := d) hB kn ok fun s1 cc hB1 kn1 o1 _ => ⟨83, rfl, rfl, ?_⟩
    obtain ⟨a, ha, e1⟩ := isN_ex (dP_iff.mp z) (by omega)
    obtain ⟨b, hb, e2⟩ := isN_ex (dP_iff.mp y) (by omega)
    have ev : qWs s.B x1 x2 = if dO s.B a b = true then (if dO s.B b a = true then 2 else 1) else 0 := by
      unfold qWs; rw [if_pos z, if_pos y, e1, e2, nI_clamp (by omega), nI_clamp (by omega)]
    have fin := K s1 cc ⟨r, o, hB1, kn1⟩
    rw [ev] at fin
    rw [e1, e2]
    refine ro (c79 o1 (by omega) (by omega)) ⟨fun w => ?_, fun w => ?_⟩
    · rw [b01_n] at w
      rw [if_pos w] at fin
      refine ro (c79 o1 (by omega) (by omega)) ⟨fun u => ?_, fun u => ?_⟩
      · rw [b01_0] at u; rw [u] at fin; exact fin
      · rw [b01_n] at u; rw [u] at fin; exact fin
    · rw [b01_0] at w; rw [w] at fin; exact fin
  · rw [b01_0] at y
    have e : qWs s.B x1 x2 = -1 := by unfold qWs; rw [z, y]; rfl
    rw [e] at K
    exact K σ cC_rfl h
theorem k203 {x1 x2 : Int32} (h : RR s σ) (ok : OkS s) (K : ∀ σ', CR σ σ' → RR s σ' → Q (some (.int (qWs s.B x1 x2))) σ') : Cm Θ (d + 3) 203 [.ref 124, .int x1, .int x2] σ Q := by
  have h16 := bk16 ok
  have hn := h.2.1.2.1.1
  refine K203 (B203_0 (c200 hn (by omega) ⟨_, rfl, fun z => ?_, fun z => c200 hn (by omega) ⟨_, rfl, fun y => ?_, fun y => ?_⟩⟩))
  · rw [b01_0] at z
    have e : qWs s.B x1 x2 = -1 := by unfold qWs; rw [z]; rfl
    rw [e] at K
    exact K σ cR_rfl h
  · rw [b01_n] at z y
    refine k198 (d := d) h ok fun s1 cc hR1 o1 => ⟨rfl, ?_⟩
    obtain ⟨a, ha, e1⟩ := isN_ex (dP_iff.mp z) (by omega)
    obtain ⟨b, hb, e2⟩ := isN_ex (dP_iff.mp y) (by omega)
    have ev : qWs s.B x1 x2 = if dO s.B a b = true then (if dO s.B b a = true then 2 else 1) else 0 := by
      unfold qWs; rw [if_pos z, if_pos y, e1, e2, nI_clamp (by omega), nI_clamp (by omega)]
    have fin := K s1 cc hR1
    rw [ev] at fin
    rw [e1, e2]
    refine c202 o1 h16 ha (by omega) ⟨_, rfl, fun w => ?_, fun w => ?_⟩
    · rw [b01_n] at w
      rw [if_pos w] at fin
      refine c202 o1 h16 hb (by omega) ⟨_, rfl, fun u => ?_, fun u => ?_⟩
      · rw [b01_0] at u; rw [u] at fin; exact fin
      · rw [b01_n] at u; rw [u] at fin; exact fin
    · rw [b01_0] at w; rw [w] at fin; exact fin
  · rw [b01_0] at y; rw [b01_n] at z
    have e : qWs s.B x1 x2 = -1 := by unfold qWs; rw [z, y]; rfl
    rw [e] at K
    exact K σ cR_rfl h
/-- clash(what) -/
noncomputable def qCl (B : Bk) (x : Int32) : Int32 := if x = 0 then nI (prC (bN B) (fun i j => !false || decide (bY B i = bY B j)) (gp (dO B) (bG B))) else if x = 1 then nI (sN (bN B) (fun a => sN (bN B) (gO (dO B) (bG B) a))) else if x = 2 then nI (mxS (bN B) (fun a => mxS (bN B) (gO (dO B) (bG B) a))) else -1
theorem x012 {x : Int32} : (x.toInt = 0 ↔ x = 0) ∧ (x.toInt = 1 ↔ x = 1) ∧ (x.toInt = 2 ↔ x = 2) := by
  refine ⟨⟨fun q => ?_, fun q => by rw [q]; rfl⟩, ⟨fun q => ?_, fun q => by rw [q]; rfl⟩, ⟨fun q => ?_, fun q => by rw [q]; rfl⟩⟩
  · rw [← iI_of x, q]; rfl
  · rw [← iI_of x, q]; rfl
  · rw [← iI_of x, q]; rfl
theorem k123 {x1 : Int32} (h : RC s σ) (ok : OkS s) (K : ∀ σ', CC σ σ' → RC s σ' → Q (some (.int (qCl s.B x1))) σ') : Cm Θ (d + 4) 123 [.ref 0, .int x1] σ Q := by
  obtain ⟨r, o, hB, kn⟩ := id h
  refine K123 (B123_0 (k160' (d := d) hB kn ok fun s1 cc hB1 kn1 o1 rd => ⟨83, rfl, rfl, ?_⟩))
  obtain ⟨r1, r2, r3, r4⟩ := rB_r hB1
  have fin := K s1 cc ⟨r, o, hB1, kn1⟩
  unfold qCl at fin
  try dsimp only
  rw [r1]
  obtain ⟨t0, t1, t2⟩ := x012 (x := x1)
  refine ⟨fun z => ?_, fun z => ⟨r2, r3, ?_⟩, fun z => ⟨r2, r3, ?_⟩, fun z => ⟨r2, r3, ?_⟩⟩
  · rw [if_neg (fun q => by have := t0.mpr q; omega), if_neg (fun q => by have := t1.mpr q; omega), if_neg (fun q => by have := t2.mpr q; omega)] at fin; exact fin
  · rw [if_pos (t0.mp z)] at fin
    exact ro (c83 (d := d + 1) (yr := false) o1 rd) fin
  · rw [if_neg (fun q => by have := t0.mpr q; omega), if_pos (t1.mp z)] at fin
    rw [← sN_half] at fin
    exact ro (c84 (d := d) o1 rd) fin
  · rw [if_neg (fun q => by have := t0.mpr q; omega), if_neg (fun q => by have := t1.mpr q; omega), if_pos (t2.mp z)] at fin
    rw [mx_pair] at fin
    exact ro (c85 (d := d + 1) o1 rd) fin
theorem k207 {x1 : Int32} (h : RR s σ) (ok : OkS s) (K : ∀ σ', CR σ σ' → RR s σ' → Q (some (.int (qCl s.B x1))) σ') : Cm Θ (d + 3) 207 [.ref 124, .int x1] σ Q := by
  obtain ⟨t0, t1, t2⟩ := x012 (x := x1)
  have l0 : x1 < 0 ↔ x1.toInt < 0 := i_lt
  have l2 : x1 ≤ 2 ↔ x1.toInt ≤ 2 := i_le
  have no : (x1.toInt < 0 ∨ 2 < x1.toInt) → qCl s.B x1 = -1 := fun q => by
    unfold qCl
    rw [if_neg (fun q => by have := t0.mpr q; omega), if_neg (fun q => by have := t1.mpr q; omega), if_neg (fun q => by have := t2.mpr q; omega)]
  refine K207 (B207_0 ⟨fun z => ?_, fun z => ⟨fun y => ?_, fun y => ?_⟩⟩)
  · rw [no (Or.inl (l0.mp z))] at K; exact K σ cR_rfl h
  · refine k198 (d := d) h ok fun s1 cc hR1 o1 => ⟨rfl, c207_2 hR1.2.1 ok.2.1.1 o1 ?_⟩
    have fin := K s1 cc hR1
    have e : qCl s.B x1 = if x1 = 0 then nI (sN (bN s.B) (fun a => cN (bN s.B) (fun b => decide (0 < gO (dO s.B) (bG s.B) a b)))) else if x1 = 1 then nI (sN (bN s.B) (fun a => sN (bN s.B) (gO (dO s.B) (bG s.B) a))) else nI (mxS (bN s.B) (fun a => mxS (bN s.B) (gO (dO s.B) (bG s.B) a))) := by
      unfold qCl
      rw [pr_no]
      by_cases q0 : x1 = 0
      · rw [if_pos q0, if_pos q0]; rfl
      by_cases q1 : x1 = 1
      · rw [if_neg q0, if_neg q0, if_pos q1, if_pos q1]
      have q2 : x1 = 2 := t2.mp (by have := l2.mp y; have : ¬ x1.toInt < 0 := fun w => z (l0.mpr w); have : ¬ x1.toInt = 0 := fun w => q0 (t0.mp w); have : ¬ x1.toInt = 1 := fun w => q1 (t1.mp w); omega)
      rw [if_neg q0, if_neg q0, if_neg q1, if_neg q1, if_pos q2]
    rw [e] at fin; exact fin
  · rw [no (Or.inr (by have : ¬ x1.toInt ≤ 2 := fun w => y (l2.mpr w); omega))] at K; exact K σ cR_rfl h
/-- oddest(what) -/
noncomputable def qDd (B : Bk) (x : Int32) : Int32 := if x.toInt < 0 ∨ 2 < x.toInt then -1 else if 0 ≤ (odd3 (bN B) (dO B) (bG B)).1 then (if x = 0 then iI (odd3 (bN B) (dO B) (bG B)).1 else if x = 1 then nI (odd3 (bN B) (dO B) (bG B)).2.1 else nI (odd3 (bN B) (dO B) (bG B)).2.2) else -1
theorem cN_cut {p : Nat → Bool} {n : Nat} (hn : n ≤ 16) : cN 16 (fun j => decide (j < n) && p j) = cN n p := by
  rw [cN_sN, cN_sN]
  rw [sN_cut hn fun c hc => by rw [show decide (c < n) = false from decide_eq_false (by omega)]; rfl]
  exact sN_congr n fun k hk => by rw [show decide (k < n) = true from decide_eq_true hk]; rfl
theorem k124 {x1 : Int32} (h : RC s σ) (ok : OkS s) (K : ∀ σ', CC σ σ' → RC s σ' → Q (some (.int (qDd s.B x1))) σ') : Cm Θ (d + 4) 124 [.ref 0, .int x1] σ Q := by
  obtain ⟨r, o, hB, kn⟩ := id h
  have h16 := bk16 ok
  have l0 : x1 < 0 ↔ x1.toInt < 0 := i_lt
  have l2 : x1 ≤ 2 ↔ x1.toInt ≤ 2 := i_le
  unfold qDd at K
  refine K124 (B124_0 ⟨fun z => ?_, fun z => ⟨fun y => ?_, fun y => ?_⟩⟩)
  · rw [if_pos (Or.inl (l0.mp z))] at K; exact K σ cC_rfl h
  · refine k160' (d := d) hB kn ok fun s1 cc hB1 kn1 o1 rd => ⟨83, rfl, rfl, ?_⟩
    obtain ⟨r1, r2, r3, r4⟩ := rB_r hB1
    have fin := K s1 cc ⟨r, o, hB1, kn1⟩
    rw [if_neg (by have := l2.mp y; have : ¬ x1.toInt < 0 := fun w => z (l0.mpr w); omega)] at fin
    try dsimp only
    rw [r1]
    refine ⟨r2, r3, c86 (d := d) o1 rd ⟨_, rfl, ?_⟩⟩
    try dsimp only
    rw [r1]
    rcases odd_at (bN s.B) (dO s.B) (bG s.B) (bN s.B) with q | ⟨i, hi, q⟩
    · have q : (odd3 (bN s.B) (dO s.B) (bG s.B)).1 = -1 := q
      rw [q] at fin ⊢
      exact ⟨fun _ => by rw [if_neg (by decide)] at fin; exact fin, fun w => absurd (by decide) w⟩
    · have q : odd3 (bN s.B) (dO s.B) (bG s.B) = ((i : Int), foN (bN s.B) (dO s.B) (bG s.B) i, foS (bN s.B) (dO s.B) (bG s.B) i) := q
      rw [q] at fin ⊢
      rw [if_pos (by show (0 : Int) ≤ i; omega)] at fin
      rw [show iI ((i : Int)) = nI i from rfl] at *
      refine ⟨fun w => absurd w (by rw [i_lt, nI_int (by omega)]; show ¬ (i : Int) < 0; omega), fun _ => ⟨fun y0 => ⟨fun y1 => ⟨r2, r3, ?_⟩, fun y1 => ⟨r2, r3, ?_⟩⟩, fun y0 => ?_⟩⟩
      · rw [if_neg y0, if_neg y1] at fin
        exact ro (c82 (d := d + 1) o1 rd hi) fin
      · rw [if_neg y0, if_pos y1] at fin
        refine ro (c81 (d := d + 1) o1 rd hi) (c286 ⟨_, rfl, ?_⟩)
        rw [cN_cut h16]
        exact fin
      · rw [if_pos y0] at fin; exact fin
  · rw [if_pos (Or.inr (by have : ¬ x1.toInt ≤ 2 := fun w => y (l2.mpr w); omega))] at K; exact K σ cC_rfl h
theorem k208 {x1 : Int32} (h : RR s σ) (ok : OkS s) (K : ∀ σ', CR σ σ' → RR s σ' → Q (some (.int (qDd s.B x1))) σ') : Cm Θ (d + 4) 208 [.ref 124, .int x1] σ Q := by
  have l0 : x1 < 0 ↔ x1.toInt < 0 := i_lt
  have l2 : x1 ≤ 2 ↔ x1.toInt ≤ 2 := i_le
  unfold qDd at K
  refine K208 (B208_0 ⟨fun z => ?_, fun z => ⟨fun y => ?_, fun y => ?_⟩⟩)
  · rw [if_pos (Or.inl (l0.mp z))] at K; exact K σ cR_rfl h
  · refine k198 (d := d + 1) h ok fun s1 cc hR1 o1 => ⟨rfl, c208_2 hR1.2.1 ok.2.1.1 o1 ?_⟩
    have fin := K s1 cc hR1
    rw [if_neg (by have := l2.mp y; have : ¬ x1.toInt < 0 := fun w => z (l0.mpr w); omega)] at fin
    exact fin
  · rw [if_pos (Or.inr (by have : ¬ x1.toInt ≤ 2 := fun w => y (l2.mpr w); omega))] at K; exact K σ cR_rfl h
/-- beside(i) -/
noncomputable def qBd (B : Bk) (x : Int32) : Int32 := if dP (isN x (bN B)) = true then iI (fd (bN B) (bsF (dO B) (bG B) x.toNatClampNeg) (-1, 0)).1 else -1
theorem k125 {x1 : Int32} (h : RC s σ) (ok : OkS s) (K : ∀ σ', CC σ σ' → RC s σ' → Q (some (.int (qBd s.B x1))) σ') : Cm Θ (d + 4) 125 [.ref 0, .int x1] σ Q := by
  obtain ⟨r, o, hB, kn⟩ := id h
  obtain ⟨r1, r2, r3, r4⟩ := rB_r hB
  have h16 := bk16 ok
  have hn := hB.2.2.1.1.2.2.1.1
  unfold qBd at K
  refine K125 (B125_0 ?_)
  rw [r1]
  refine ⟨r2, r3, c12' r3 hn (by omega) ⟨_, rfl, fun z => ?_, fun z => ?_⟩⟩
  · rw [b01_0] at z; rw [z] at K; exact K σ cC_rfl h
  rw [b01_n] at z
  rw [if_pos z] at K
  obtain ⟨a, ha, e1⟩ := isN_ex (dP_iff.mp z) (by omega)
  rw [e1] at K ⊢
  rw [nI_clamp (by omega)] at K
  refine k160' (d := d) hB kn ok fun s1 cc hB1 kn1 o1 rd => ⟨83, rfl, rfl, ?_⟩
  obtain ⟨r1, r2, r3, r4⟩ := rB_r hB1
  try dsimp only
  rw [r1]
  exact ⟨r2, r3, ro (c87 (d := d + 1) o1 rd ha) (K s1 cc ⟨r, o, hB1, kn1⟩)⟩
theorem k209 {x1 : Int32} (h : RR s σ) (ok : OkS s) (K : ∀ σ', CR σ σ' → RR s σ' → Q (some (.int (qBd s.B x1))) σ') : Cm Θ (d + 4) 209 [.ref 124, .int x1] σ Q := by
  have h16 := bk16 ok
  have hn := h.2.1.2.1.1
  unfold qBd at K
  refine K209 (B209_0 (c200 hn (by omega) ⟨_, rfl, fun z => ?_, fun z => ?_⟩))
  · rw [b01_n] at z
    rw [if_pos z] at K
    obtain ⟨a, ha, e1⟩ := isN_ex (dP_iff.mp z) (by omega)
    rw [e1] at K ⊢
    rw [nI_clamp (by omega)] at K
    exact k198 (d := d + 1) h ok fun s1 cc hR1 o1 => ⟨rfl, c209_2 hR1.2.1 ok.2.1.1 o1 ha (K s1 cc hR1)⟩
  · rw [b01_0] at z; rw [z] at K; exact K σ cR_rfl h
end ans1
