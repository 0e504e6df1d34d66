/-! THE CALLS: again, runs, begins, off, luck -/
def covX (B : Bk) (D : Nat → Nat → Bool) : Nat → Prop := fun s => s < 2 ^ bN B ∧ cvr (bN B) (clE D (bG B)) s
noncomputable def qTa (B : Bk) : Nat × Nat × Nat := Classical.epsilon (fun p => Tal 16 (covX B (dO B)) p.1 p.2.1 p.2.2)
theorem qTa_is {B : Bk} {f l k : Nat} (h : Tal 16 (covX B (dO B)) f l k) : qTa B = (f, l, k) := by
  have h' := Classical.epsilon_spec (p := fun p : Nat × Nat × Nat => Tal 16 (covX B (dO B)) p.1 p.2.1 p.2.2) ⟨(f, l, k), h⟩
  have hp := Nat.two_pow_pos (bN B)
  obtain ⟨e1, e2, e3⟩ := tal_one h h' ⟨2 ^ bN B - 1, by omega, fun a b ha _ _ => Or.inl (by rw [Nat.testBit_two_pow_sub_one]; exact decide_eq_true ha)⟩
  exact Prod.ext e1.symm (Prod.ext e2.symm e3.symm)
noncomputable def qAg (B : Bk) (x : Int32) : Int32 := if x = 0 then nI (qTa B).1 else if x = 1 then nI (qTa B).2.1 else if x = 2 then nI (qTa B).2.2 else -1
noncomputable def qRn (B : Bk) (m most : Nat) : Rat × Nat := Classical.epsilon (fun p => RunOpt (bW B) (bG B) (Al B) (fun c => bS B c m) (bTp B m) most p.1 p.2)
theorem qRn_is {B : Bk} {m most β : Nat} {v : Rat} (h : RunOpt (bW B) (bG B) (Al B) (fun c => bS B c m) (bTp B m) most v β) : qRn B m most = (v, β) := by
  have h' := Classical.epsilon_spec (p := fun p : Rat × Nat => RunOpt (bW B) (bG B) (Al B) (fun c => bS B c m) (bTp B m) most p.1 p.2) ⟨(v, β), h⟩
  obtain ⟨e1, e2⟩ := runopt_one h h'
  exact Prod.ext e1.symm e2.symm
noncomputable def ruB (B : Bk) (x1 x2 : Int32) : Bool := dP (isN x1 (bM B)) && decide (1 ≤ x2.toInt ∧ x2.toInt ≤ 12)
noncomputable def qRu (B : Bk) (x1 x2 x3 : Int32) : Int64 := if ruB B x1 x2 = true then (if dP (isN x3 2) = true then rp (qRn B x1.toNatClampNeg x2.toNatClampNeg).1 x3 else -1) else -1
noncomputable def qBg (B : Bk) (x1 x2 : Int32) : Int32 := if ruB B x1 x2 = true then nI (qRn B x1.toNatClampNeg x2.toNatClampNeg).2 else -1
theorem ruB_ex {B : Bk} {x1 x2 : Int32} (hm : bM B ≤ 6) (h : ruB B x1 x2 = true) : ∃ a b, a < bM B ∧ 1 ≤ b ∧ b ≤ 12 ∧ x1 = nI a ∧ x2 = nI b := by
  unfold ruB at h
  rw [Bool.and_eq_true, decide_eq_true_eq] at h
  obtain ⟨a, ha, e1⟩ := isN_ex (dP_iff.mp h.1) (by omega)
  obtain ⟨b, hb, e2⟩ := isN_ex (x := x2) (n := 13) ⟨by omega, by omega⟩ (by omega)
  have := h.2
  rw [e2, nI_int (by omega)] at this
  exact ⟨a, b, ha, by omega, by omega, e1, e2⟩
noncomputable def offS (B : Bk) (x : Int32) (n : Nat) : Nat := sN n (fun c => if nI (bJ B c) = x then gD (bW B) (bG B) (qKg B) c else 0)
noncomputable def qOf (B : Bk) (x : Int32) : Int32 := if dP (isN x 10) = true then nI (offS B x (bN B)) else -1
noncomputable def ownJ (B : Bk) (x : Int32) (n : Nat) : Nat := cN n (fun c => decide (nI (bJ B c) = x))
noncomputable def qLk (B : Bk) (x1 x2 : Int32) : Int64 := if dP (isN x1 10) = true then (if dP (isN x2 2) = true then (if ownJ B x1 (bN B) = 0 then -1 else rp (mkRat (cw (rowL (bN B) (fun c => ((gD (bW B) (bG B) (qKg B) c : Nat) : Int))) (ownJ B x1 (bN B)) (offS B x1 (bN B)) : Nat) (bin (bN B) (ownJ B x1 (bN B)))) x2) else -1) else -1
theorem rowL_congr {f g : Nat → Int} : ∀ n, (∀ c, c < n → f c = g c) → rowL n f = rowL n g
  | 0, _ => rfl
  | n + 1, h => by
    have := rowL_congr n (fun c hc => h c (by omega))
    unfold rowL
    rw [this, h n (by omega)]
theorem bin_b {n own : Nat} (h16 : n ≤ 16) : bin n own ≤ 65536 := by
  rw [← bin_sets]
  exact Nat.le_trans (cN_max _ _) (pw_le h16)
theorem cw_b {n : Nat} (f : Nat → Int) (s : Nat) (m : Int) (h16 : n ≤ 16) : cw (rowL n f) s m ≤ 65536 := by
  rw [← cw_sets]
  exact Nat.le_trans (cN_max _ _) (pw_le h16)
theorem gDk {B : Bk} {f : Nat → Nat} (h16 : bN B ≤ 16) (h : KG (bW B) (bG B) (dO B) (Al B) f) {c : Nat} (hc : c < bN B) : gD (bW B) (bG B) f c = gD (bW B) (bG B) (qKg B) c := by
  unfold gD; rw [qKg_is h h16 hc]
section ans5
variable {Θ : Th} {d : Nat} {σ : Mem} {Q : Po} {s : St}
theorem RB_113 {r o : Nat} {σ' : Mem} {ls : List Nat} (h : RB s r o σ) (f : Fr ls σ σ') (hr : σ'.2.2 0 = σ.2.2 0) (hl : ∀ x, x ∈ ls → x = 0 ∨ (3 ≤ x ∧ x ≤ 11) ∨ 83 ≤ x) (h7 : σ'.1 113 0 = 0) : RB s r o σ' := by
  obtain ⟨h0, h1, ⟨h2, h3⟩, h4, h5, h6, -⟩ := h
  have hr12 : r = 12 ∨ r = 22 := h2.1
  have ho : o = 32 ∨ o = 39 := h4.1
  exact ⟨by rw [hr]; exact h0, TC_fr h1 f (fun q => by have := hl _ q; omega) (fun q => by have := hl _ q; omega), ⟨BkC_f2 h2 f fun x x1 x2 q => by have := hl _ q; omega, NwC_fr h3 f fun q => by have := hl _ q; omega⟩, LwS_fr h4 f fun x x1 x2 q => by have := hl _ q; omega, AcC_fr h5 f fun x x1 x2 q => by have := hl _ q; omega, XC_fr h6 f fun x x1 x2 q => by have := hl _ q; omega, h7⟩
theorem tal_out {x1 : Int32} {f l k : Nat} {σ1 : Mem} (hx : x1.toInt = 0 ∨ x1.toInt = 1 ∨ x1.toInt = 2) (h : Tal 16 (covX s.B (dO s.B)) f l k) (m : σ1.1 110 0 = nI f ∧ σ1.1 110 1 = nI l ∧ σ1.1 110 2 = nI k) (K : Q (some (.int (qAg s.B x1))) σ1) :
    ((¬ x1 = 0 → ((¬ x1 = 1 → Q (some (.int (σ1.1 110 2))) σ1) ∧ (x1 = 1 → Q (some (.int (σ1.1 110 1))) σ1))) ∧ (x1 = 0 → Q (some (.int (σ1.1 110 0))) σ1)) := by
  obtain ⟨t0, t1, t2⟩ := x012 (x := x1)
  unfold qAg at K
  rw [qTa_is h] at K
  refine ⟨fun z => ⟨fun y => ?_, fun y => ?_⟩, fun z => ?_⟩
  · rw [if_neg z, if_neg y, if_pos (t2.mp (by rcases hx with q | q | q; exact absurd (t0.mp q) z; exact absurd (t1.mp q) y; exact q))] at K; rw [m.2.2]; exact K
  · rw [if_neg z, if_pos y] at K; rw [m.2.1]; exact K
  · rw [if_pos z] at K; rw [m.1]; exact K
theorem qAg_no {B : Bk} {x1 : Int32} (h : x1.toInt < 0 ∨ 2 < x1.toInt) : qAg B x1 = -1 := by
  obtain ⟨t0, t1, t2⟩ := x012 (x := x1)
  unfold qAg
  rw [if_neg (fun q => by have := t0.mpr q; omega), if_neg (fun q => by have := t1.mpr q; omega), if_neg (fun q => by have := t2.mpr q; omega)]
theorem k129 {x1 : Int32} (h : RC s σ) (ok : OkS s) (K : ∀ σ', CC σ σ' → RC s σ' → Q (some (.int (qAg s.B x1))) σ') : Cm Θ (d + 20) 129 [.ref 0, .int x1] σ Q := by
  obtain ⟨r, o, hB, kn⟩ := id h
  obtain ⟨r1, r2, r3, r4⟩ := rB_r hB
  have l0 : x1 < 0 ↔ x1.toInt < 0 := i_lt
  have l2 : x1 ≤ 2 ↔ x1.toInt ≤ 2 := i_le
  obtain ⟨k, k1, k2, k3, k4, k5, k6, k7⟩ := id kn
  refine K129 (B129_0 ?_)
  rw [k2, (kbit k1).2.2.2.1, r1, l0, l2]
  refine ⟨fun z => ?_, fun z => ⟨fun y => ⟨fun q => ?_, fun q => ⟨r2, r3, ?_⟩⟩, fun y => ?_⟩⟩
  · rw [qAg_no (Or.inl z)] at K; exact K σ cC_rfl h
  · obtain ⟨a, b, c, g1, g2, g3, g4⟩ := k6 (by simpa using q)
    exact tal_out (by omega) g1 g2 (K σ cC_rfl h)
  · refine k160' (d := d + 16) hB kn ok fun s1 cc hB1 kn1 o1 rd => ⟨83, rfl, rfl, ?_⟩
    refine c33 (d := d) o1 rd fun s2 f l kk f2 q2 m2 => ⟨rfl, ?_⟩
    obtain ⟨k', k1', k2', k3', k4', k5', k6', k7'⟩ := id kn1
    have e17 : s2.1 0 17 = nI k' := by rw [(f2 0 (by decide)).1]; exact k2'
    have kn2 := Kn_set (B := s.B) (σ := s2) (b := 3) (by omega) k1' e17 (fun z => OrC_f2 (k3' (z.resolve_right (by omega))) f2 ⟨by decide, by decide⟩) (fun z => SqC_f2 (k4' (z.resolve_right (by omega))) f2 fun x x1 x2 z => by simp at z; omega) (fun z => ?_) (fun _ => ⟨f, l, kk, q2, m2⟩) (fun z => ?_)
    · have fr2 : Fr [0, 110, 111] s1 (sI s2 0 17 (s2.1 0 17 ||| nI (2 ^ 3))) := (f2.mono (by intro x hx; simp at hx; simp; omega)).I (by simp)
      have fin := K _ (cC_tr cc (cC_fr fr2 fun x hx => by simp at hx; omega)) ⟨r, o, RB_fr hB1 fr2 (by rw [sI_R, (f2 0 (by decide)).2.2]) (fun x hx => by simp at hx; omega), kn2⟩
      exact tal_out (by omega) q2 (by rw [sI_ne (by decide)]; exact m2.1) fin
    · obtain ⟨g, g1, g2, g3⟩ := k5' (z.resolve_right (by omega))
      exact ⟨g, g1, by rw [(f2 97 (by decide)).1, (f2 98 (by decide)).1]; exact g2, by rw [(f2 92 (by decide)).1]; exact g3⟩
    · obtain ⟨a, b, g1, g2⟩ := k7' (z.resolve_right (by omega))
      exact ⟨a, b, g1, by rw [(f2 0 (by decide)).1]; exact g2⟩
  · rw [qAg_no (Or.inr (by omega))] at K; exact K σ cC_rfl h
theorem k231 {x1 : Int32} (h : RR s σ) (ok : OkS s) (K : ∀ σ', CR σ σ' → RR s σ' → Q (some (.int (qAg s.B x1))) σ') : Cm Θ (d + 3) 231 [.ref 124, .int x1] σ Q := by
  have l0 : x1 < 0 ↔ x1.toInt < 0 := i_lt
  have l2 : x1 ≤ 2 ↔ x1.toInt ≤ 2 := i_le
  obtain ⟨t0, t1, t2⟩ := x012 (x := x1)
  refine K231 (B231_0 ?_)
  rw [l0, l2]
  refine ⟨fun z => B231_9 ?_, fun z => ⟨fun y => ?_, fun y => B231_9 ?_⟩⟩
  · rw [qAg_no (Or.inl z)] at K; exact K σ cR_rfl h
  · refine k198 (d := d) h ok fun s1 cc hR1 o1 => ⟨rfl, c219 hR1.2.1.2.1.1 (bk16 ok) ⟨_, rfl, ?_⟩⟩
    refine c231_25 (d := d + 1) hR1.2.1 ok.2.1.1 o1 fun f l k q => ?_
    have fin := K s1 cc hR1
    unfold qAg at fin
    rw [qTa_is q] at fin
    by_cases q0 : x1 = 0
    · rw [if_pos q0] at fin ⊢; exact fin
    by_cases q1 : x1 = 1
    · rw [if_neg q0, if_pos q1] at fin ⊢; exact fin
    · rw [if_neg q0, if_neg q1] at fin ⊢
      rw [if_pos (t2.mp (by have : ¬ x1.toInt = 0 := fun w => q0 (t0.mp w); have : ¬ x1.toInt = 1 := fun w => q1 (t1.mp w); omega))] at fin; exact fin
  · rw [qAg_no (Or.inr (by omega))] at K; exact K σ cR_rfl h
theorem k159 {r o : Nat} {x1 x2 : Int32} (hB : RB s r o σ) (ok : OkS s) (k : Q (some (.int (b01 (ruB s.B x1 x2)))) σ) : Cm Θ (d + 1) 159 [.ref 0, .int x1, .int x2] σ Q := by
  obtain ⟨r1, r2, r3, r4⟩ := rB_r hB
  have hm := bm6 ok.2.1.1
  have hn := hB.2.2.1.1.2.1.1
  have l0 : x2 < 1 ↔ x2.toInt < 1 := i_lt
  have l2 : (12 : Int32) < x2 ↔ 12 < x2.toInt := i_lt
  unfold ruB at k
  refine K159 (B159_0 ?_)
  rw [r1, l0, l2]
  refine ⟨r2, r3, c11' r3 hn (by omega) ⟨_, rfl, fun z => ?_, fun z => ⟨fun y => ?_, fun y => ⟨fun w => ?_, fun w => ?_⟩⟩⟩⟩
  · rw [b01_0] at z; rw [z] at k; exact k
  · rw [decide_eq_false (by omega), Bool.and_false] at k; exact k
  · rw [decide_eq_false (by omega), Bool.and_false] at k; exact k
  · rw [b01_n] at z; rw [z, decide_eq_true (by omega)] at k; exact k
theorem k237 {x1 x2 : Int32} (h : RR s σ) (ok : OkS s) (k : Q (some (.int (b01 (ruB s.B x1 x2)))) σ) : Cm Θ (d + 1) 237 [.ref 124, .int x1, .int x2] σ Q := by
  have hm := bm6 ok.2.1.1
  have hn := h.2.1.1.1
  have l0 : x2 < 1 ↔ x2.toInt < 1 := i_lt
  have l2 : (12 : Int32) < x2 ↔ 12 < x2.toInt := i_lt
  unfold ruB at k
  refine K237 (B237_0 (c201 hn (by omega) ⟨_, rfl, fun z => ?_, fun z => ?_⟩))
  · rw [b01_0] at z; rw [z] at k; exact k
  · rw [l0, l2]
    refine ⟨fun y => ?_, fun y => ⟨fun w => ?_, fun w => ?_⟩⟩
    · rw [decide_eq_false (by omega), Bool.and_false] at k; exact k
    · rw [decide_eq_false (by omega), Bool.and_false] at k; exact k
    · rw [b01_n] at z; rw [z, decide_eq_true (by omega)] at k; exact k
theorem k92 {r o a b : Nat} (hB : RB s r o σ) (kn : Kn s.B σ) (ok : OkS s) (ha : a < bM s.B) (h1 : 1 ≤ b) (h12 : b ≤ 12) (K : ∀ σ', CC σ σ' → RC s σ' → (σ'.2.1 115 0 = jJ (qRn s.B a b).1.num ∧ σ'.2.1 115 1 = jJ ((qRn s.B a b).1.den : Nat)) → σ'.1 114 1 = nI (qRn s.B a b).2 → Q none σ') : Cm Θ (d + 5) 92 [.ref 114, .ref r, .int (nI a), .int (nI b)] σ Q := by
  refine c92 hB.2.2.1.1 ok.2.1.1 ha h1 h12 fun s1 v β f1 q1 q2 q3 _ => ?_
  have e := qRn_is q1
  refine K s1 (cC_fr f1 fun x hx => by simp at hx; omega) ⟨r, o, RB_fr hB f1 (f1 0 (by decide)).2.2 (fun x hx => by simp at hx; omega), Kn_fr kn f1 (by rw [(f1 0 (by decide)).1]; exact ⟨rfl, rfl⟩) (by rw [(f1 110 (by decide)).1]; exact ⟨rfl, rfl, rfl⟩) fun x hx => by simp at hx; omega⟩ (by rw [e]; exact q2) (by rw [e]; exact q3)
theorem k133 {x1 x2 x3 : Int32} (h : RC s σ) (ok : OkS s) (K : ∀ σ', CC σ σ' → RC s σ' → Q (some (.long (qRu s.B x1 x2 x3))) σ') : Cm Θ (d + 6) 133 [.ref 0, .int x1, .int x2, .int x3] σ Q := by
  obtain ⟨r, o, hB, kn⟩ := id h
  obtain ⟨r1, r2, r3, r4⟩ := rB_r hB
  have hm := bm6 ok.2.1.1
  unfold qRu at K
  refine K133 (B133_0 (k159 (d := d + 4) hB ok ⟨_, rfl, fun z => ?_, fun z => c155 ⟨_, rfl, fun y => ?_, fun y => ?_⟩⟩))
  · rw [b01_0] at z; rw [z] at K; exact K σ cC_rfl h
  · rw [b01_n] at z y
    obtain ⟨a, b, ha, hb, hb', e1, e2⟩ := ruB_ex hm z
    rw [if_pos z, if_pos y, e1, e2, nI_clamp (by omega), nI_clamp (by omega)] at K
    rw [e1, e2, r1]
    refine ⟨r2, r3, k92 (d := d) hB kn ok ha hb hb' fun s1 cc hC1 q1 q2 => ⟨rfl, c49 rfl ⟨_, rfl, ?_⟩⟩⟩
    rw [rp_i q1.1 q1.2]
    exact K s1 cc hC1
  · rw [b01_n] at z; rw [b01_0] at y; rw [if_pos z, y] at K; exact K σ cC_rfl h
theorem k134 {x1 x2 : Int32} (h : RC s σ) (ok : OkS s) (K : ∀ σ', CC σ σ' → RC s σ' → Q (some (.int (qBg s.B x1 x2))) σ') : Cm Θ (d + 6) 134 [.ref 0, .int x1, .int x2] σ Q := by
  obtain ⟨r, o, hB, kn⟩ := id h
  obtain ⟨r1, r2, r3, r4⟩ := rB_r hB
  have hm := bm6 ok.2.1.1
  unfold qBg at K
  refine K134 (B134_0 (k159 (d := d + 4) hB ok ⟨_, rfl, fun z => ?_, fun z => ?_⟩))
  · rw [b01_n] at z
    obtain ⟨a, b, ha, hb, hb', e1, e2⟩ := ruB_ex hm z
    rw [if_pos z, e1, e2, nI_clamp (by omega), nI_clamp (by omega)] at K
    rw [e1, e2, r1]
    refine ⟨r2, r3, k92 (d := d) hB kn ok ha hb hb' fun s1 cc hC1 q1 q2 => ⟨rfl, ?_⟩⟩
    try dsimp only
    rw [q2]; exact K s1 cc hC1
  · rw [b01_0] at z; rw [z] at K; exact K σ cC_rfl h
theorem k238 {a b : Nat} (h : RR s σ) (ok : OkS s) (ha : a < bM s.B) (h1 : 1 ≤ b) (h12 : b ≤ 12) (K : ∀ σ', CR σ σ' → RR s σ' → (σ'.2.1 124 44 = jJ (qRn s.B a b).1.num ∧ σ'.2.1 124 45 = jJ ((qRn s.B a b).1.den : Nat)) → Q (some (.int (nI (qRn s.B a b).2))) σ') : Cm Θ (d + 4) 238 [.ref 124, .int (nI a), .int (nI b)] σ Q := by
  refine c238 h.2.1 ok.2.1.1 ha h1 h12 fun s1 v β f1 q1 q2 => ?_
  have e := qRn_is q1
  have q := qR_ft f1 fun x hx => by simp at hx; omega
  have := K s1 q.1 (RR_Q h q.2)
  rw [e] at this
  exact this q2
theorem k239 {x1 x2 x3 : Int32} (h : RR s σ) (ok : OkS s) (K : ∀ σ', CR σ σ' → RR s σ' → Q (some (.long (qRu s.B x1 x2 x3))) σ') : Cm Θ (d + 5) 239 [.ref 124, .int x1, .int x2, .int x3] σ Q := by
  have hm := bm6 ok.2.1.1
  unfold qRu at K
  refine K239 (B239_0 (k237 (d := d + 3) h ok ⟨_, rfl, fun z => ?_, fun z => c213 ⟨_, rfl, fun y => ?_, fun y => ?_⟩⟩))
  · rw [b01_0] at z; rw [z] at K; exact K σ cR_rfl h
  · rw [b01_n] at z y
    obtain ⟨a, b, ha, hb, hb', e1, e2⟩ := ruB_ex hm z
    rw [if_pos z, if_pos y, e1, e2, nI_clamp (by omega), nI_clamp (by omega)] at K
    rw [e1, e2]
    refine k238 (d := d) h ok ha hb hb' fun s1 cc hR1 q1 => ⟨_, rfl, c214 ⟨_, rfl, ?_⟩⟩
    rw [rp_i q1.1 q1.2]
    exact K s1 cc hR1
  · rw [b01_n] at z; rw [b01_0] at y; rw [if_pos z, y] at K; exact K σ cR_rfl h
theorem k240 {x1 x2 : Int32} (h : RR s σ) (ok : OkS s) (K : ∀ σ', CR σ σ' → RR s σ' → Q (some (.int (qBg s.B x1 x2))) σ') : Cm Θ (d + 5) 240 [.ref 124, .int x1, .int x2] σ Q := by
  have hm := bm6 ok.2.1.1
  unfold qBg at K
  refine K240 (B240_0 (k237 (d := d + 3) h ok ⟨_, rfl, fun z => ?_, fun z => ?_⟩))
  · rw [b01_0] at z; rw [z] at K; exact K σ cR_rfl h
  · rw [b01_n] at z
    obtain ⟨a, b, ha, hb, hb', e1, e2⟩ := ruB_ex hm z
    rw [if_pos z, e1, e2, nI_clamp (by omega), nI_clamp (by omega)] at K
    rw [e1, e2]
    exact k238 (d := d) h ok ha hb hb' fun s1 cc hR1 q1 => ⟨_, rfl, K s1 cc hR1⟩
/-- off(judge) -/
theorem offS_b {B : Bk} {lv : Nat} {x : Int32} (hk : BkOk lv B) (hf : ∀ c, c < bN B → qKg B c ≤ 240) {n : Nat} (hn : n ≤ bN B) : offS B x n ≤ 15360 := by
  have h16 : bN B ≤ 16 := by have := hk.2.1; omega
  refine Nat.le_trans (sN_b n (b := 960) fun c hc => ?_) (Nat.mul_le_mul (show n ≤ 16 by omega) (Nat.le_refl 960))
  split
  · exact gD_le hk hf (by omega)
  · exact Nat.zero_le _
theorem k135 {r o : Nat} {x1 : Int32} (hB : RB s r o σ) (kn : Kn s.B σ) (ok : OkS s) (hx : dP (isN x1 10) = true) (K : ∀ σ', CC σ σ' → RB s r o σ' → Kn s.B σ' → KGp s.B σ' → offS s.B x1 (bN s.B) ≤ 15360 → Q (some (.int (nI (offS s.B x1 (bN s.B))))) σ') : Cm Θ (d + 7) 135 [.ref 0, .int x1] σ Q := by
  have h16 := bk16 ok
  have hkB := ok.2.1.1
  have l0 : x1 < 0 ↔ x1.toInt < 0 := i_lt
  have l9 : x1 ≤ 9 ↔ x1.toInt ≤ 9 := i_le
  obtain ⟨b, hb, eb⟩ := isN_ex (dP_iff.mp hx) (by decide)
  have hx' : 0 ≤ x1.toInt ∧ x1.toInt ≤ 9 := by rw [eb, nI_int (by omega)]; omega
  refine K135 (B135_0 ?_)
  rw [l0, l9]
  refine ⟨fun z => by omega, fun z => ⟨fun y => ?_, fun y => by omega⟩⟩
  refine k162' (d := d) hB kn ok fun s1 cc hB1 kn1 q1 => ⟨92, rfl, rfl, ?_⟩
  obtain ⟨r1, r2, r3, r4⟩ := rB_r hB1
  obtain ⟨f, v1, v2, v3⟩ := id q1
  have hB' := hB1.2.2.1.1
  have hn := hB'.2.2.1.1
  have hlv : bN s.B ≤ s.lv := by have := hkB.2.1; omega
  have fb : ∀ c, c < bN s.B → qKg s.B c ≤ 240 := fun c hc => by rw [← qKg_is v1 h16 hc]; exact (v2 c hc).1
  refine loopN (P := fun i => G Θ (d + 7) 135 22 [some (.ref 0), some (.int x1), some (.ref 92), some (.int (nI (offS s.B x1 i))), some (.int (nI i))] [] s1 Q) (bN s.B) ?_ ?_
  · refine B135_22 rfl ?_
    rw [r1, hn]
    exact ⟨r2, r3, fun _ => K s1 cc hB1 kn1 q1 (offS_b hkB fb (Nat.le_refl _)), fun q => absurd (nI_le (Nat.le_refl _) (by omega)) q⟩
  · intro i hi ih
    refine B135_22 rfl ?_
    rw [r1, hn, nI_clamp (by omega), hB'.2.2.1.2.1 i (by omega), (v2 i hi).2.2, nI_1]
    have es : offS s.B x1 (i + 1) = offS s.B x1 i + (if nI (bJ s.B i) = x1 then gD (bW s.B) (bG s.B) (qKg s.B) i else 0) := rfl
    rw [es] at ih
    refine ⟨r2, r3, fun q => absurd q (nI_ge hi (by omega)), fun _ => ⟨r2, r3, vp_in_nI (by omega) (by decide), fun q => ?_, fun q => ⟨vp_in_nI (by omega) (by decide), ?_⟩⟩⟩
    · rw [if_neg q, Nat.add_zero] at ih; exact ih
    · rw [if_pos q] at ih
      rw [nI_add, gDk h16 v1 hi]; exact ih
theorem k135' {x1 : Int32} (h : RC s σ) (ok : OkS s) (K : ∀ σ', CC σ σ' → RC s σ' → Q (some (.int (qOf s.B x1))) σ') : Cm Θ (d + 7) 135 [.ref 0, .int x1] σ Q := by
  obtain ⟨r, o, hB, kn⟩ := id h
  have l0 : x1 < 0 ↔ x1.toInt < 0 := i_lt
  have l9 : x1 ≤ 9 ↔ x1.toInt ≤ 9 := i_le
  unfold qOf at K
  by_cases hx : dP (isN x1 10) = true
  · rw [if_pos hx] at K
    exact k135 hB kn ok hx fun s1 cc hB1 kn1 _ _ => K s1 cc ⟨r, o, hB1, kn1⟩
  · rw [if_neg hx] at K
    have hx' : ¬ isN x1 10 := fun q => hx (dP_t q)
    unfold isN at hx'
    refine K135 (B135_0 ?_)
    rw [l0, l9]
    exact ⟨fun z => K σ cC_rfl h, fun z => ⟨fun y => absurd ⟨by omega, by show x1.toInt < 10; omega⟩ hx', fun y => K σ cC_rfl h⟩⟩
theorem k242 {f : Nat → Nat} {x1 : Int32} (h : RR s σ) (ok : OkS s) (v1 : KG (bW s.B) (bG s.B) (dO s.B) (Al s.B) f) (v2 : ∀ c, c < bN s.B → f c ≤ 240 ∧ σ.1 157 c = nI (f c)) (K : offS s.B x1 (bN s.B) ≤ 15360 → Q (some (.int (nI (offS s.B x1 (bN s.B))))) σ) : Cm Θ (d + 1) 242 [.ref 124, .int x1] σ Q := by
  have h16 := bk16 ok
  have hkB := ok.2.1.1
  have hlv : bN s.B ≤ s.lv := by have := hkB.2.1; omega
  have fb : ∀ c, c < bN s.B → qKg s.B c ≤ 240 := fun c hc => by rw [← qKg_is v1 h16 hc]; exact (v2 c hc).1
  refine c242 (f := f) (jd := bJ s.B) h.2.1.2.1.1 h16 (fun c hc => h.2.1.2.1.2.1 c (by omega)) (fun c hc => h.2.1.2.1.2.2.2.2.1 c (by omega)) (fun c hc => bk_g h.2.1 hkB hc) (fun c hc => ⟨(v2 c hc).2, (v2 c hc).1⟩) ?_
  have e : sN (bN s.B) (fun c => if nI (bJ s.B c) = x1 then gD (bW s.B) (bG s.B) f c else 0) = offS s.B x1 (bN s.B) := sN_congr _ fun c hc => by rw [gDk h16 v1 hc]
  rw [e]; exact K (offS_b hkB fb (Nat.le_refl _))
theorem k243 {x1 : Int32} (h : RR s σ) (ok : OkS s) (K : ∀ σ', CR σ σ' → RR s σ' → Q (some (.int (qOf s.B x1))) σ') : Cm Θ (d + 3) 243 [.ref 124, .int x1] σ Q := by
  unfold qOf at K
  refine K243 (B243_0 (c241 ⟨_, rfl, fun z => ?_, fun z => ?_⟩))
  · rw [b01_n] at z; rw [if_pos z] at K
    refine k198 (d := d) h ok fun s1 cc hR1 o1 => ⟨rfl, ?_⟩
    refine k222 (d := d) hR1 ok o1 fun s2 f q2 hR2 v1 v2 => ⟨rfl, ?_⟩
    exact k242 (d := d + 1) hR2 ok v1 v2 fun _ => ⟨_, rfl, K s2 (cR_tr cc q2.1) hR2⟩
  · rw [b01_0] at z; rw [z] at K; exact K σ cR_rfl h
end ans5
