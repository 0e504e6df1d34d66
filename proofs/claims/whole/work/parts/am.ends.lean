/-! THE CALLS: ends, first -/
def nwLo (B : Bk) (nw : Nat → Nat) (c : Nat) : Bool := nl (bM B) (bCt B) nw (bS B c)
def nwHi (B : Bk) (nw : Nat → Nat) (c : Nat) : Bool := nl (bM B) (bCt B) (bS B c) nw
noncomputable def mk0 (B : Bk) (nw : Nat → Nat) : Nat → Bool := unN (bN B) (dO B) (nwLo B nw)
noncomputable def mk1R (B : Bk) (nw : Nat → Nat) : Nat → Bool := unN (bN B) (fun a b => dO B b a) (nwHi B nw)
noncomputable def mkX (B : Bk) (nw : Nat → Nat) (x : Int32) : Nat → Bool := if x = 0 then mk0 B nw else mk1R B nw
noncomputable def bet (x : Int32) (a b : Rat) : Bool := if x = 0 then decide (b < a) else decide (a < b)
noncomputable def edS (B : Bk) (M : Nat → Bool) (x : Int32) : Nat → Int
  | 0 => -1
  | n + 1 => if M n = true then (if edS B M x n < 0 then (n : Int) else if bet x (qVi B n) (qVi B (edS B M x n).toNat) = true then (n : Int) else edS B M x n) else edS B M x n
noncomputable def qEd (B : Bk) (nw : Nat → Nat) (x1 x2 : Int32) : Int64 := if dP (isN x2 2) = true then (if 0 ≤ edS B (mkX B nw x1) x1 (bN B) then rp (qVi B (edS B (mkX B nw x1) x1 (bN B)).toNat) x2 else -1) else -1
noncomputable def fiF (B : Bk) (nw : Nat → Nat) (g : Int) (i : Nat) : Bool := (mk0 B nw i && decide (g < (bG B i : Int))) || (mk1R B nw i && decide ((bG B i : Int) < g))
noncomputable def qFi (B : Bk) (nw : Nat → Nat) (x : Int32) : Int32 := if dP (isN x 241) = true then iI (fsT (bN B) (fiF B nw x.toInt)) else -1
theorem edS_b (B : Bk) (M : Nat → Bool) (x : Int32) : ∀ n, -1 ≤ edS B M x n ∧ edS B M x n < n
  | 0 => ⟨Int.le_refl _, show (-1 : Int) < ((0 : Nat) : Int) by decide⟩
  | n + 1 => by
    obtain ⟨h1, h2⟩ := edS_b B M x n
    unfold edS
    split
    · split
      · exact ⟨by omega, by omega⟩
      · split
        · exact ⟨by omega, by omega⟩
        · exact ⟨h1, by omega⟩
    · exact ⟨h1, by omega⟩
/-- where the fractions lie -/
def ViL (B : Bk) (p q : Nat) (σ : Mem) : Prop := ∀ c, c < bN B → σ.2.1 p c = jJ (qVi B c).num ∧ σ.2.1 q c = jJ ((qVi B c).den : Nat) ∧ (qVi B c).den ≤ 64 ∧ 0 ≤ qVi B c ∧ qVi B c ≤ ((240 : Nat) : Rat)
theorem frac_c {a b : Rat} (ha : 0 ≤ a ∧ a ≤ ((240 : Nat) : Rat)) (hb : 0 ≤ b ∧ b ≤ ((240 : Nat) : Rat)) (da : a.den ≤ 64) (db : b.den ≤ 64) :
    (0 ≤ a.num * (b.den : Int) ∧ a.num * (b.den : Int) ≤ 983040) ∧ (0 ≤ b.num * (a.den : Int) ∧ b.num * (a.den : Int) ≤ 983040) ∧ (a.num * (b.den : Int) ≤ b.num * (a.den : Int) ↔ a ≤ b) ∧ (b.num * (a.den : Int) ≤ a.num * (b.den : Int) ↔ b ≤ a) := by
  have h1 := num_b ha.1 ha.2
  have h2 := num_b hb.1 hb.2
  have bd : ∀ x : Int, ∀ y z : Nat, 0 ≤ x → x ≤ 240 * (y : Int) → y ≤ 64 → z ≤ 64 → 0 ≤ x * (z : Int) ∧ x * (z : Int) ≤ 983040 := fun x y z hx hy h3 h4 => by
    refine ⟨Int.mul_nonneg hx (Int.natCast_nonneg _), ?_⟩
    exact Int.mul_le_mul (c := (15360 : Int)) (d := (64 : Int)) (by omega) (by omega) (Int.natCast_nonneg _) (by decide)
  exact ⟨bd a.num a.den b.den h1.1 h1.2 da db, bd b.num b.den a.den h2.1 h2.2 db da, (Rat.le_iff _ _).symm, (Rat.le_iff _ _).symm⟩
section ans10
variable {Θ : Th} {d : Nat} {σ : Mem} {Q : Po} {s : St}
theorem ViL_C (ok : OkS s) (h : KSq s.B σ) : ViL s.B 94 95 σ := by
  obtain ⟨f, r, h1, -, -, -, h5⟩ := h
  intro c hc
  have h16 := bk16 ok
  have e := qVi_is ok.2.1.1 h1 hc
  have g := (h5 c (by omega) (decide_eq_true hc)).1
  rw [← e]; exact g
theorem ViL_R (ok : OkS s) (h : SqR (bW s.B) (bG s.B) (dO s.B) (Al s.B) σ) : ViL s.B 154 155 σ := by
  obtain ⟨f, r, h1, -, -, -, h5⟩ := h
  intro c hc
  have h16 := bk16 ok
  have e := qVi_is ok.2.1.1 h1 hc
  have g := h5 c (by omega) (decide_eq_true hc)
  rw [← e]; exact g
theorem nw_18 {r o c : Nat} (hB : RB s r o σ) (ok : OkS s) (hc : c < bN s.B) : Ci Θ (d + 1) 18 [.ref r, .int 16, .int (nI c), .int (σ.1 r 3)] σ (fun v σ' => σ' = σ ∧ v = b01 (nwLo s.B s.nw c)) ∧ Ci Θ (d + 1) 18 [.ref r, .int (nI c), .int 16, .int (σ.1 r 3)] σ (fun v σ' => σ' = σ ∧ v = b01 (nwHi s.B s.nw c)) := by
  have hkB := ok.2.1.1
  have h16 := bk16 ok
  have hm := bm6 hkB
  obtain ⟨r1, r2, r3, r4⟩ := rB_r hB
  have hB' := hB.2.2.1.1
  have nw := hB.2.2.1.2
  have hn : ∀ m, m < bM s.B → σ.1 (r + 7) (6 * 16 + m) = nI (s.nw m) ∧ s.nw m < 100 := fun m hm' => ⟨nw m hm', by have := ok.2.1.2.2.2 m hm'; have := (hkB.2.2.1 m hm').2; omega⟩
  have hc' : ∀ m, m < bM s.B → σ.1 (r + 7) (6 * c + m) = nI (bS s.B c m) ∧ bS s.B c m < 100 := fun m hm' => ⟨hB'.2.2.1.2.2.2.2.2 c m (by have := hkB.2.1; omega) hm', by have := (hkB.2.2.2.2.1 c (by have := hkB.2.1; omega)).2.2.2.2.2 m hm'; have := (hkB.2.2.1 m hm').2; omega⟩
  rw [hB'.2.1.2.2.2]
  exact ⟨c18 (a := 16) (b := c) r3 hB'.2.1.1 hm (by omega) (by omega) hn hc', c18 (a := c) (b := 16) r3 hB'.2.1.1 hm (by omega) (by omega) hc' hn⟩
theorem k90 {r o : Nat} (hB : RB s r o σ) (ok : OkS s) (hD : OrC 83 (dO s.B) σ) (k : Q (some (.int (sX (mk0 s.B s.nw)))) σ) : Cm Θ (d + 2) 90 [.ref 83, .ref r] σ Q :=
  c90 (q := nwLo s.B s.nw) hD ⟨(rB_r hB).2.2.2, hB.2.2.1.1.2.2.1.1, bk16 ok⟩ rfl (fun c hc => (nw_18 hB ok hc).1) k
theorem k91 {r o : Nat} (hB : RB s r o σ) (ok : OkS s) (hD : OrC 83 (dO s.B) σ) (k : Q (some (.int (sX (mk1R s.B s.nw)))) σ) : Cm Θ (d + 2) 91 [.ref 83, .ref r] σ Q :=
  c91 (q := nwHi s.B s.nw) hD ⟨(rB_r hB).2.2.2, hB.2.2.1.1.2.2.1.1, bk16 ok⟩ rfl (fun c hc => (nw_18 hB ok hc).2) k
theorem edS_s {B : Bk} {M : Nat → Bool} {x : Int32} {n : Nat} : edS B M x (n + 1) = if M n = true then (if edS B M x n < 0 then (n : Int) else if bet x (qVi B n) (qVi B (edS B M x n).toNat) = true then (n : Int) else edS B M x n) else edS B M x n := rfl
theorem k145l {r o : Nat} {x1 x2 : Int32} {M : Nat → Bool} (ok : OkS s) (hB : RB s r o σ) (kn : Kn s.B σ) (hV : KSq s.B σ) (K : Q (some (.long (if 0 ≤ edS s.B M x1 (bN s.B) then rp (qVi s.B (edS s.B M x1 (bN s.B)).toNat) x2 else -1))) σ) : G Θ (d + 1) 145 53 [some (.ref 0), some (.int x1), some (.int x2), some (.ref 92), some (.int (sX M)), some (.int (-1)), some (.int 0)] [] σ Q := by
  have h16 := bk16 ok
  obtain ⟨r1, r2, r3, r4⟩ := rB_r hB
  have hn := hB.2.2.1.1.2.2.1.1
  have vi := ViL_C ok hV
  have lp := loopN (P := fun i => G Θ (d + 1) 145 53 [some (.ref 0), some (.int x1), some (.int x2), some (.ref 92), some (.int (sX M)), some (.int (iI (edS s.B M x1 i))), some (.int (nI i))] [] σ Q) (bN s.B) ?_ ?_
  · exact lp
  · obtain ⟨b1, b2⟩ := edS_b s.B M x1 (bN s.B)
    obtain ⟨n1, n2⟩ := iI_neg1 b1 (by omega)
    refine B145_53 rfl ?_
    rw [r1, hn, n2]
    refine ⟨r2, r3, fun _ => ⟨fun w => ?_, fun w => ?_⟩, fun q => absurd (nI_le (Nat.le_refl _) (by omega)) q⟩
    · rw [if_pos w] at K
      obtain ⟨c, ec⟩ : ∃ c : Nat, edS s.B M x1 (bN s.B) = c := ⟨_, (Int.toNat_of_nonneg w).symm⟩
      rw [ec, Int.toNat_natCast] at K
      rw [ec, show iI ((c : Nat) : Int) = nI c from (iI_nI c).symm]
      have g := vi c (by omega)
      unfold rp at K
      refine K71 (B71_0 rfl ⟨fun u => ⟨vp_in_nI (by omega) (by decide), ⟨_, rfl, ?_⟩⟩, fun u => ⟨vp_in_nI (by omega) (by decide), ⟨_, rfl, ?_⟩⟩⟩)
      · rw [if_neg u] at K
        rw [nI_clamp (by omega), g.2.1]; exact K
      · rw [if_pos u] at K
        rw [nI_clamp (by omega), g.1]; exact K
    · rw [if_neg w] at K; exact K
  · intro i hi ih
    obtain ⟨b1, b2⟩ := edS_b s.B M x1 i
    obtain ⟨n1, n2⟩ := iI_neg1 b1 (by omega)
    refine B145_53 rfl ?_
    rw [r1, hn, n1, sX_shr _ (by omega), nI_1]
    rw [edS_s] at ih
    refine ⟨r2, r3, fun q => absurd q (nI_ge hi (by omega)), fun _ => ⟨fun q => ?_, fun q => ⟨fun w => ?_, fun w => ?_⟩⟩⟩
    · rw [b01_0] at q; rw [if_neg (by rw [q]; decide)] at ih; exact ih
    · rw [b01_n] at q; rw [if_pos q, if_pos w] at ih; exact ih
    · rw [b01_n] at q; rw [if_pos q, if_neg w] at ih
      obtain ⟨c, ec⟩ : ∃ c : Nat, edS s.B M x1 i = c := ⟨_, (Int.toNat_of_nonneg (by omega)).symm⟩
      have hcb : c < i := by omega
      rw [ec, Int.toNat_natCast] at ih
      rw [ec, show iI ((c : Nat) : Int) = nI c from (iI_nI c).symm]
      have g := vi c (by omega)
      have g' := vi i hi
      obtain ⟨p1, p2, p3, p4⟩ := frac_c g'.2.2.2 g.2.2.2 g'.2.2.1 g.2.2.1
      have v1 := vp_in_nI (show c < 16 by omega) (by decide)
      have v2 := vp_in_nI (show i < 16 by omega) (by decide)
      have fin : ∀ b : Bool, bet x1 (qVi s.B i) (qVi s.B c) = b → (fun v7 σ7 => (v7 = 0 → G Θ (d + 1) 145 53 [some (.ref 0), some (.int x1), some (.int x2), some (.ref 92), some (.int (sX M)), some (.int (nI c)), some (.int (nI (i + 1)))] [] σ7 Q) ∧ (¬ v7 = 0 → G Θ (d + 1) 145 53 [some (.ref 0), some (.int x1), some (.int x2), some (.ref 92), some (.int (sX M)), some (.int (nI i)), some (.int (nI (i + 1)))] [] σ7 Q)) (b01 b) σ := fun b eb => by
        rw [eb] at ih
        refine ⟨fun z => ?_, fun z => ?_⟩
        · rw [b01_0] at z; rw [z, if_neg (by decide)] at ih; exact ih
        · rw [b01_n] at z; rw [z, if_pos rfl] at ih; exact ih
      refine K72 (B72_0 rfl ?_)
      rw [nI_clamp (by omega), nI_clamp (by omega), g.1, g.2.1, g'.1, g'.2.1, jJ_mul, jJ_mul, jJ_sub, lc_le, lc_ge, jJ_0, jJ_le (by omega) (by omega) (by omega) (by omega), jJ_le (by omega) (by omega) (by omega) (by omega)]
      refine ⟨v2, v1, v1, v2, fun z => ⟨fun y => ?_, fun y => ?_⟩, fun z => ⟨fun y => ?_, fun y => ?_⟩⟩
      · have : qVi s.B i ≤ qVi s.B c := p3.mp (by omega)
        exact ⟨_, rfl, fin false (by unfold bet; rw [if_pos z]; exact decide_eq_false (Rat.not_lt.mpr this))⟩
      · have : ¬ qVi s.B i ≤ qVi s.B c := fun w => y (by have := p3.mpr w; omega)
        exact ⟨_, rfl, fin true (by unfold bet; rw [if_pos z]; exact decide_eq_true (Rat.not_le.mp this))⟩
      · have : qVi s.B c ≤ qVi s.B i := p4.mp (by omega)
        exact ⟨_, rfl, fin false (by unfold bet; rw [if_neg z]; exact decide_eq_false (Rat.not_lt.mpr this))⟩
      · have : ¬ qVi s.B c ≤ qVi s.B i := fun w => y (by have := p4.mpr w; omega)
        exact ⟨_, rfl, fin true (by unfold bet; rw [if_neg z]; exact decide_eq_true (Rat.not_le.mp this))⟩
theorem k145 {x1 x2 : Int32} (h : RC s σ) (ok : OkS s) (K : ∀ σ', CC σ σ' → RC s σ' → Q (some (.long (qEd s.B s.nw x1 x2))) σ') : Cm Θ (d + 8) 145 [.ref 0, .int x1, .int x2] σ Q := by
  obtain ⟨r, o, hB, kn⟩ := id h
  unfold qEd at K
  refine K145 (B145_0 (c155 ⟨_, rfl, fun y => ?_, fun y => ?_⟩))
  · rw [b01_n] at y
    rw [if_pos y] at K
    refine k161' (d := d + 1) hB kn ok fun s1 cc hB1 kn1 q1 => ⟨92, rfl, rfl, fun z => ?_, fun z => ?_⟩
    · refine k160 (d := d + 4) hB1 kn1 ok fun s2 f2 rf2 e16 kn2 o2 => ⟨83, rfl, rfl, ?_⟩
      have hB2 := RB_fr hB1 f2 rf2 fun x hx => by simp at hx; omega
      have q2 : KSq s.B s2 := SqC_f2 q1 f2 fun x x1 x2 z => by simp at z; omega
      obtain ⟨r1, r2, r3, r4⟩ := rB_r hB2
      try dsimp only
      rw [r1]
      have fin := K s2 (cC_tr cc (cC_fr f2 fun x hx => by simp at hx; omega)) ⟨r, o, hB2, kn2⟩
      unfold mkX at fin
      rw [if_pos z] at fin
      exact ⟨r2, r3, k90 (d := d + 5) hB2 ok o2 ⟨_, rfl, k145l (d := d + 7) ok hB2 kn2 q2 fin⟩⟩
    · refine k160 (d := d + 4) hB1 kn1 ok fun s2 f2 rf2 e16 kn2 o2 => ⟨83, rfl, rfl, ?_⟩
      have hB2 := RB_fr hB1 f2 rf2 fun x hx => by simp at hx; omega
      have q2 : KSq s.B s2 := SqC_f2 q1 f2 fun x x1 x2 z => by simp at z; omega
      obtain ⟨r1, r2, r3, r4⟩ := rB_r hB2
      try dsimp only
      rw [r1]
      have fin := K s2 (cC_tr cc (cC_fr f2 fun x hx => by simp at hx; omega)) ⟨r, o, hB2, kn2⟩
      unfold mkX at fin
      rw [if_neg z] at fin
      exact ⟨r2, r3, k91 (d := d + 5) hB2 ok o2 ⟨_, rfl, k145l (d := d + 7) ok hB2 kn2 q2 fin⟩⟩
  · rw [b01_0] at y; rw [y] at K; exact K σ cC_rfl h
theorem nl_s {mk : Nat} {p : Nat → Bool} {s t : Nat → Nat} : nl (mk + 1) p s t = (nl mk p s t && (!p mk || decide (t mk ≤ s mk))) := rfl
theorem unN_s {n : Nat} {D : Nat → Nat → Bool} {q : Nat → Bool} : sX (unN (n + 1) D q) = if q n = true then sX (unN n D q) ||| sX (D n) else sX (unN n D q) := by
  by_cases h : q n = true
  · rw [if_pos h, sX_or]
    refine sX_congr fun k _ => ?_
    show (exB n _ || (q n && D n k)) = _
    rw [h, Bool.true_and]; rfl
  · rw [if_neg h]
    refine sX_congr fun k _ => ?_
    show (exB n _ || (q n && D n k)) = _
    rw [Bool.eq_false_iff.mpr h, Bool.false_and, Bool.or_false]; rfl
/-- the reference: which cases lie around the new one -/
theorem k272 {x1 : Int32} (h : RR s σ) (ok : OkS s) (hD : OrR s.B (dO s.B) σ) (k : Q (some (.int (sX (mkX s.B s.nw x1)))) σ) : Cm Θ d 272 [.ref 124, .int x1] σ Q := by
  have hkB := ok.2.1.1
  have h16 := bk16 ok
  have hm := bm6 hkB
  have hlv : bN s.B ≤ s.lv := by have := hkB.2.1; omega
  have i_lt' : ∀ x y : Nat, x < 1000000 → y < 1000000 → (nI x < nI y ↔ x < y) := fun x y hx hy => by rw [i_lt, nI_int (by omega), nI_int (by omega)]; omega
  obtain ⟨qq, hqq⟩ : ∃ qq : Nat → Nat → Bool, qq = fun c n => if x1 = 0 then nl n (bCt s.B) s.nw (bS s.B c) else nl n (bCt s.B) (bS s.B c) s.nw := ⟨_, rfl⟩
  obtain ⟨DD, hDD⟩ : ∃ DD : Nat → Nat → Bool, DD = fun a => if x1 = 0 then dO s.B a else fun b => dO s.B b a := ⟨_, rfl⟩
  have em : mkX s.B s.nw x1 = unN (bN s.B) DD (fun c => qq c (bM s.B)) := by
    unfold mkX mk0 mk1R
    rw [hqq, hDD]
    by_cases z : x1 = 0
    · simp only [if_pos z]; rfl
    · simp only [if_neg z]; rfl
  rw [em] at k
  refine K272 (B272_0 ?_)
  have lp := loopN (P := fun i => G Θ d 272 4 [some (.ref 124), some (.int x1), some (.int (sX (unN i DD (fun c => qq c (bM s.B))))), some (.int (nI i)), none, none] [] σ Q) (bN s.B) ?_ ?_
  · have e0 : (0 : Int32) = sX (unN 0 DD (fun c => qq c (bM s.B))) := by rw [sX_0]; exact sX_congr fun _ _ => rfl
    rw [← e0] at lp; exact lp
  · refine B272_4 ?_
    rw [h.2.1.2.1.1]
    exact ⟨fun _ => k, fun q => absurd (nI_le (Nat.le_refl _) (by omega)) q⟩
  · intro i hi ih
    refine B272_4 ?_
    rw [h.2.1.2.1.1]
    refine ⟨fun q => absurd q (nI_ge hi (by omega)), fun _ => ?_⟩
    have hst : ∀ m, m < bM s.B → bS s.B i m ≤ 11 ∧ s.nw m ≤ 11 := fun m hm' => ⟨by have := (hkB.2.2.2.2.1 i (by omega)).2.2.2.2.2 m hm'; have := (hkB.2.2.1 m hm').2; omega, by have := ok.2.1.2.2.2 m hm'; have := (hkB.2.2.1 m hm').2; omega⟩
    have lq := loopN (P := fun m => G Θ d 272 18 [some (.ref 124), some (.int x1), some (.int (sX (unN i DD (fun c => qq c (bM s.B))))), some (.int (nI i)), some (.int (b01 (qq i m))), some (.int (nI m))] [] σ Q) (bM s.B) ?_ ?_
    · have e1 : qq i 0 = true := by rw [hqq]; show (if x1 = 0 then true else true) = true; split <;> rfl
      rw [e1] at lq; exact lq
    · refine B272_18 ?_
      rw [h.2.1.1.1, nI_1, nI_clamp (by omega), (hD i hi).1, (hD i hi).2]
      rw [unN_s] at ih
      refine ⟨fun _ => ⟨fun z => ?_, fun z => ⟨fun y => ⟨vp_in_nI (by omega) (by decide), ?_⟩, fun y => ⟨vp_in_nI (by omega) (by decide), ?_⟩⟩⟩, fun q => absurd (nI_le (Nat.le_refl _) (by omega)) q⟩
      · rw [b01_0] at z; rw [if_neg (by rw [z]; decide)] at ih; exact ih
      · rw [b01_n] at z; rw [if_pos z, hDD] at ih; simp only [if_pos y] at ih; rw [hDD]; simp only [if_pos y]; exact ih
      · rw [b01_n] at z; rw [if_pos z, hDD] at ih; simp only [if_neg y] at ih; rw [hDD]; simp only [if_neg y]; exact ih
    · intro m hm' ihm
      have e6 : (6 : Int32) * nI i + nI m = nI (6 * i + m) := by rw [show (6 : Int32) = nI 6 from rfl, pk_mul, nI_add]
      have vm := vp_in_nI (show m < 6 by omega) (by decide)
      have v96 := vp_in_nI (show 6 * i + m < 96 by omega) (by decide)
      have hs := hst m hm'
      refine B272_18 ?_
      rw [h.2.1.1.1, e6, nI_clamp (show m < 2147483648 by omega), nI_clamp (show 6 * i + m < 2147483648 by omega), h.2.1.1.2.2.2 m (by omega), h.2.2.1 m hm', h.2.1.2.1.2.2.2.2.2 i m (by omega) hm', i_lt' _ _ (by omega) (by omega), i_lt' _ _ (by omega) (by omega)]
      rw [show nI m + 1 = nI (m + 1) from nI_1 m]
      have b0 : b01 false = 0 := rfl
      have b1 : b01 true = 1 := rfl
      have es : qq i (m + 1) = (qq i m && (!bCt s.B m || (if x1 = 0 then decide (bS s.B i m ≤ s.nw m) else decide (s.nw m ≤ bS s.B i m)))) := by
        rw [hqq]
        by_cases z : x1 = 0
        · simp only [if_pos z]; rfl
        · simp only [if_neg z]; rfl
      rw [es] at ihm
      refine ⟨fun q => absurd q (nI_ge hm' (by omega)), fun _ => ⟨fun z => ?_, fun z => ⟨vm, fun y => ?_, fun y => ⟨fun w => ⟨vm, v96, fun u => ?_, fun u => ?_⟩, fun w => ⟨v96, vm, fun u => ?_, fun u => ?_⟩⟩⟩⟩⟩
      · rw [b01_0] at z; rw [z, Bool.false_and, b0] at ihm; exact ihm
      · rw [b01_n] at z; rw [b01_0] at y; rw [z, y] at ihm; exact ihm
      · rw [b01_n] at z y; rw [z, y, if_pos w, decide_eq_false (by omega)] at ihm; exact ihm
      · rw [b01_n] at z y; rw [z, y, if_pos w, decide_eq_true (by omega)] at ihm; exact ihm
      · rw [b01_n] at z y; rw [z, y, if_neg w, decide_eq_false (by omega)] at ihm; exact ihm
      · rw [b01_n] at z y; rw [z, y, if_neg w, decide_eq_true (by omega)] at ihm; exact ihm
theorem k273 {x1 x2 : Int32} (h : RR s σ) (ok : OkS s) (K : ∀ σ', CR σ σ' → RR s σ' → Q (some (.long (qEd s.B s.nw x1 x2))) σ') : Cm Θ (d + 6) 273 [.ref 124, .int x1, .int x2] σ Q := by
  have h16 := bk16 ok
  have hkB := ok.2.1.1
  unfold qEd at K
  refine K273 (B273_0 (c213 ⟨_, rfl, fun y => ?_, fun y => ?_⟩))
  · rw [b01_n] at y
    rw [if_pos y] at K
    refine k198 (d := d + 3) h ok fun s1 cc hR1 o1 => ⟨rfl, ?_⟩
    refine c219 hR1.2.1.2.1.1 h16 ⟨_, rfl, ?_⟩
    have h216 := fun c (hc : c < bN s.B) => o1 c hc
    rw [nI_al h16]
    have hlv : bN s.B ≤ s.lv := by have := hkB.2.1; omega
    refine c217 (d := d + 1) (T := Al s.B) hR1.2.1.2.1.1 h16 (fun c hc => ⟨hR1.2.1.2.1.2.2.2.2.1 c (by omega), (wP hkB (decide_eq_true hc)).1, (wP hkB (decide_eq_true hc)).2.1⟩) (fun c hc => ⟨hR1.2.1.2.1.2.2.2.1 c (by omega), (wP hkB (decide_eq_true hc)).2.2⟩) (fun c hc => (o1 c hc).1) (dOk s.B _ _) (fun c hc => al_lt hc) fun s2 f2 g2 => ⟨rfl, ?_⟩
    have q2 := qR_ft f2 fun x hx => by simp at hx; omega
    have hR2 := RR_Q hR1 q2.2
    have o2 : OrR s.B (dO s.B) s2 := fun a ha => by
      rw [(f2.1 149 (by simp) (by decide)).1, (f2.1 150 (by simp) (by decide)).1]; exact o1 a ha
    have fin := K s2 (cR_tr cc q2.1) hR2
    refine k272 hR2 ok o2 ⟨_, rfl, ?_⟩
    have vi := ViL_R ok g2
    generalize mkX s.B s.nw x1 = M at *
    have lp := loopN (P := fun i => G Θ (d + 6) 273 35 [some (.ref 124), some (.int x1), some (.int x2), some (.int (sX M)), some (.int (iI (edS s.B M x1 i))), some (.int (nI i)), none, none, none, none] [] s2 Q) (bN s.B) ?_ ?_
    · exact lp
    · obtain ⟨b1, b2⟩ := edS_b s.B M x1 (bN s.B)
      obtain ⟨n1, n2⟩ := iI_neg1 b1 (by omega)
      refine B273_35 ?_
      rw [hR2.2.1.2.1.1, n2]
      refine ⟨fun _ => ⟨fun w => ?_, fun w => ?_⟩, fun q => absurd (nI_le (Nat.le_refl _) (by omega)) q⟩
      · rw [if_pos w] at fin
        obtain ⟨c, ec⟩ : ∃ c : Nat, edS s.B M x1 (bN s.B) = c := ⟨_, (Int.toNat_of_nonneg w).symm⟩
        rw [ec, Int.toNat_natCast] at fin
        rw [ec, show iI ((c : Nat) : Int) = nI c from (iI_nI c).symm]
        have g := vi c (by omega)
        unfold rp at fin
        refine ⟨fun u => ⟨vp_in_nI (by omega) (by decide), ?_⟩, fun u => ⟨vp_in_nI (by omega) (by decide), ?_⟩⟩
        · rw [if_neg u] at fin
          rw [nI_clamp (by omega), g.2.1]; exact fin
        · rw [if_pos u] at fin
          rw [nI_clamp (by omega), g.1]; exact fin
      · rw [if_neg w] at fin; exact fin
    · intro i hi ih
      obtain ⟨b1, b2⟩ := edS_b s.B M x1 i
      obtain ⟨n1, n2⟩ := iI_neg1 b1 (by omega)
      rw [edS_s] at ih
      have vi' := vp_in_nI (show i < 16 by omega) (by decide)
      have k140' : ∀ v, G Θ (d + 6) 273 35 [some (.ref 124), some (.int x1), some (.int x2), some (.int (sX M)), some (.int v), some (.int (nI (i + 1))), none, none, none, none] [] s2 Q → G Θ (d + 6) 273 140 [some (.ref 124), some (.int x1), some (.int x2), some (.int (sX M)), some (.int v), some (.int (nI i)), none, none, none, none] [] s2 Q := fun v g => B273_140 (by rw [nI_1]; exact g)
      refine B273_35 ?_
      rw [hR2.2.1.2.1.1, n1, n2, sX_shr _ (by omega)]
      refine ⟨fun q => absurd q (nI_ge hi (by omega)), fun _ => ⟨fun q => ⟨fun p => ⟨vi', ?_⟩, fun p => ⟨fun p2 => absurd p2 p, fun _ => ⟨fun _ => ?_, fun p2 => absurd (by omega) p2⟩⟩⟩, fun q => ?_⟩⟩
      · rw [b01_n] at q
        rw [if_pos q, if_neg (by omega)] at ih
        obtain ⟨c, ec⟩ : ∃ c : Nat, edS s.B M x1 i = c := ⟨_, (Int.toNat_of_nonneg p).symm⟩
        have hcb : c < i := by omega
        rw [ec, Int.toNat_natCast] at ih
        rw [ec, show iI ((c : Nat) : Int) = nI c from (iI_nI c).symm]
        have vc := vp_in_nI (show c < 16 by omega) (by decide)
        have g := vi c (by omega)
        have g' := vi i hi
        obtain ⟨p1, p2, p3, p4⟩ := frac_c g'.2.2.2 g.2.2.2 g'.2.2.1 g.2.2.1
        have yes : bet x1 (qVi s.B i) (qVi s.B c) = true → G Θ (d + 6) 273 136 [some (.ref 124), some (.int x1), some (.int x2), some (.int (sX M)), none, some (.int (nI i)), none, none, none, none] [] s2 Q := fun e => B273_136 (k140' _ (by rw [if_pos e] at ih; exact ih))
        have no : bet x1 (qVi s.B i) (qVi s.B c) = false → G Θ (d + 6) 273 140 [some (.ref 124), some (.int x1), some (.int x2), some (.int (sX M)), some (.int (nI c)), some (.int (nI i)), none, none, none, none] [] s2 Q := fun e => k140' _ (by rw [if_neg (by rw [e]; decide)] at ih; exact ih)
        rw [nI_clamp (show i < 2147483648 by omega), nI_clamp (show c < 2147483648 by omega), g.1, g.2.1, g'.1, g'.2.1, jJ_mul, jJ_mul, lc_le, lc_ge, jJ_le (by omega) (by omega) (by omega) (by omega), jJ_le (by omega) (by omega) (by omega) (by omega)]
        refine ⟨vc, fun _ => ⟨vc, vi', fun z => absurd z (by omega), fun _ => ⟨fun z => ⟨fun y => ?_, fun y => ?_⟩, fun z => ⟨fun y => ?_, fun y => ?_⟩⟩⟩, fun z => absurd (show (0 : Int) ≤ (c : Nat) by omega) z⟩
        · have : qVi s.B i ≤ qVi s.B c := p3.mp y
          exact no (by unfold bet; rw [if_pos z]; exact decide_eq_false (Rat.not_lt.mpr this))
        · have : ¬ qVi s.B i ≤ qVi s.B c := fun w => y (p3.mpr w)
          exact yes (by unfold bet; rw [if_pos z]; exact decide_eq_true (Rat.not_le.mp this))
        · have : qVi s.B c ≤ qVi s.B i := p4.mp y
          exact no (by unfold bet; rw [if_neg z]; exact decide_eq_false (Rat.not_lt.mpr this))
        · have : ¬ qVi s.B c ≤ qVi s.B i := fun w => y (p4.mpr w)
          exact yes (by unfold bet; rw [if_neg z]; exact decide_eq_true (Rat.not_le.mp this))
      · rw [b01_n] at q
        rw [if_pos q, if_pos (by omega)] at ih
        exact B273_136 (k140' _ ih)
      · rw [b01_0] at q
        rw [if_neg (by rw [q]; decide)] at ih
        exact k140' _ ih
  · rw [b01_0] at y; rw [y] at K; exact K σ cR_rfl h
/-- first(g) -/
theorem k146l {r o : Nat} {x1 : Int32} (ok : OkS s) (hB : RB s r o σ) (K : Q (some (.int (iI (fsT (bN s.B) (fiF s.B s.nw x1.toInt))))) σ) : G Θ (d + 1) 146 36 [some (.ref 0), some (.int x1), some (.int (sX (mk1R s.B s.nw))), some (.int (sX (mk0 s.B s.nw))), some (.int 0), none, none] [] σ Q := by
  have h16 := bk16 ok
  have hkB := ok.2.1.1
  have hlv : bN s.B ≤ s.lv := by have := hkB.2.1; omega
  obtain ⟨r1, r2, r3, r4⟩ := rB_r hB
  have hB' := hB.2.2.1.1
  have hn := hB'.2.2.1.1
  refine loopS (α := Unit) (I := fun i _ => ¬ 0 ≤ fsT i (fiF s.B s.nw x1.toInt)) (P := fun i _ => G Θ (d + 1) 146 36 [some (.ref 0), some (.int x1), some (.int (sX (mk1R s.B s.nw))), some (.int (sX (mk0 s.B s.nw))), some (.int (nI i)), none, none] [] σ Q) (bN s.B) ?_ ?_ () (fun z => absurd (show (0 : Int) ≤ -1 from z) (by decide))
  · intro _ hz
    have b := fsT_b (f := fiF s.B s.nw x1.toInt) (bN s.B)
    rw [show fsT (bN s.B) (fiF s.B s.nw x1.toInt) = -1 by omega] at K
    refine B146_36 ?_
    rw [r1, hn]
    exact ⟨r2, r3, fun _ => K, fun q => absurd (nI_le (Nat.le_refl _) (by omega)) q⟩
  · intro i _ hi hz ih
    have hg := (wP hkB (B := s.B) (c := i) (decide_eq_true hi)).2.2
    have yes : fiF s.B s.nw x1.toInt i = true → Q (some (.int (nI i))) σ := fun e => by
      have := fsT_s hz
      rw [if_pos e] at this
      rw [fsT_st this (bN s.B) (by omega), show iI ((i : Nat) : Int) = nI i from (iI_nI i).symm] at K
      exact K
    have no : fiF s.B s.nw x1.toInt i = false → G Θ (d + 1) 146 36 [some (.ref 0), some (.int x1), some (.int (sX (mk1R s.B s.nw))), some (.int (sX (mk0 s.B s.nw))), some (.int (nI (i + 1))), none, none] [] σ Q := fun e => ih () (by
      rw [fsT_s hz, if_neg (by rw [e]; decide)]; decide)
    have ef : fiF s.B s.nw x1.toInt i = ((mk0 s.B s.nw i && decide (x1.toInt < (bG s.B i : Int))) || (mk1R s.B s.nw i && decide ((bG s.B i : Int) < x1.toInt))) := rfl
    have lA : x1 ≤ nI (bG s.B i) ↔ x1.toInt ≤ (bG s.B i : Int) := by rw [i_le, nI_int (by omega)]
    have lB : nI (bG s.B i) ≤ x1 ↔ (bG s.B i : Int) ≤ x1.toInt := by rw [i_le, nI_int (by omega)]
    have vi := vp_in_nI (show i < 16 by omega) (by decide)
    refine B146_36 ?_
    rw [r1, hn, sX_shr _ (by omega), sX_shr _ (by omega), nI_clamp (by omega), hB'.2.2.1.2.2.2.1 i (by omega), lA, lB, b01_0, b01_0, nI_1]
    refine ⟨r2, r3, fun q => absurd q (nI_ge hi (by omega)), fun _ => ⟨fun a => ⟨fun b => no (by rw [ef, a, b]; rfl), fun b => ⟨r2, r3, vi, fun u => no (by rw [ef, a, decide_eq_false (show ¬ (bG s.B i : Int) < x1.toInt by omega)]; simp), fun u => yes (by rw [ef, decide_eq_true (show (bG s.B i : Int) < x1.toInt by omega)]; simp at b; rw [b]; simp)⟩⟩, fun a => ⟨r2, r3, vi, fun u => ⟨fun b => no (by rw [ef, b, decide_eq_false (show ¬ x1.toInt < (bG s.B i : Int) by omega)]; simp), fun b => ⟨r2, r3, vi, fun v => no (by rw [ef, decide_eq_false (show ¬ x1.toInt < (bG s.B i : Int) by omega), decide_eq_false (show ¬ (bG s.B i : Int) < x1.toInt by omega)]; simp), fun v => yes (by rw [ef, decide_eq_true (show (bG s.B i : Int) < x1.toInt by omega)]; simp at b; rw [b]; simp)⟩⟩, fun u => ⟨fun b => yes (by rw [ef, decide_eq_true (show x1.toInt < (bG s.B i : Int) by omega)]; simp at a; rw [a]; simp), fun b => ⟨r2, r3, vi, fun v => yes (by rw [ef, decide_eq_true (show x1.toInt < (bG s.B i : Int) by omega)]; simp at a; rw [a]; simp), fun v => yes (by rw [ef, decide_eq_true (show x1.toInt < (bG s.B i : Int) by omega)]; simp at a; rw [a]; simp)⟩⟩⟩⟩⟩
theorem k146 {x1 : Int32} (h : RC s σ) (ok : OkS s) (K : ∀ σ', CC σ σ' → RC s σ' → Q (some (.int (qFi s.B s.nw x1))) σ') : Cm Θ (d + 5) 146 [.ref 0, .int x1] σ Q := by
  obtain ⟨r, o, hB, kn⟩ := id h
  unfold qFi at K
  refine K146 (B146_0 (c157 ⟨_, rfl, fun y => ?_, fun y => ?_⟩))
  · rw [b01_n] at y
    rw [if_pos y] at K
    refine k160' (d := d + 1) hB kn ok fun s1 cc1 hB1 kn1 o1 _ => ⟨83, rfl, rfl, ?_⟩
    obtain ⟨r1, r2, r3, r4⟩ := rB_r hB1
    try dsimp only
    rw [r1]
    refine ⟨r2, r3, k91 (d := d + 2) hB1 ok o1 ⟨_, rfl, ?_⟩⟩
    refine k160' (d := d + 1) hB1 kn1 ok fun s2 cc2 hB2 kn2 o2 _ => ⟨83, rfl, rfl, ?_⟩
    obtain ⟨r1, r2, r3, r4⟩ := rB_r hB2
    try dsimp only
    rw [r1]
    exact ⟨r2, r3, k90 (d := d + 2) hB2 ok o2 ⟨_, rfl, k146l (d := d + 4) ok hB2 (K s2 (cC_tr cc1 cc2) ⟨r, o, hB2, kn2⟩)⟩⟩
  · rw [b01_0] at y; rw [y] at K; exact K σ cC_rfl h
theorem k274 {x1 : Int32} (h : RR s σ) (ok : OkS s) (K : ∀ σ', CR σ σ' → RR s σ' → Q (some (.int (qFi s.B s.nw x1))) σ') : Cm Θ (d + 3) 274 [.ref 124, .int x1] σ Q := by
  have h16 := bk16 ok
  have hkB := ok.2.1.1
  have hlv : bN s.B ≤ s.lv := by have := hkB.2.1; omega
  unfold qFi at K
  refine K274 (B274_0 (c248 ⟨_, rfl, fun y => ?_, fun y => ?_⟩))
  · rw [b01_n] at y
    rw [if_pos y] at K
    refine k198 (d := d) h ok fun s1 cc hR1 o1 => ⟨rfl, ?_⟩
    refine k272 hR1 ok o1 ⟨_, rfl, k272 hR1 ok o1 ⟨_, rfl, ?_⟩⟩
    have K := K s1 cc hR1
    have m0 : mkX s.B s.nw 0 = mk0 s.B s.nw := if_pos rfl
    have m1 : mkX s.B s.nw 1 = mk1R s.B s.nw := if_neg (by decide)
    rw [m0, m1]
    have hn := hR1.2.1.2.1.1
    refine loopS (α := Unit) (I := fun i _ => ¬ 0 ≤ fsT i (fiF s.B s.nw x1.toInt)) (P := fun i _ => G Θ (d + 3) 274 28 [some (.ref 124), some (.int x1), some (.int (sX (mk0 s.B s.nw))), some (.int (sX (mk1R s.B s.nw))), some (.int (nI i))] [] s1 Q) (bN s.B) ?_ ?_ () (fun z => absurd (show (0 : Int) ≤ -1 from z) (by decide))
    · intro _ hz
      have b := fsT_b (f := fiF s.B s.nw x1.toInt) (bN s.B)
      rw [show fsT (bN s.B) (fiF s.B s.nw x1.toInt) = -1 by omega] at K
      refine B274_28 ?_
      rw [hn]
      exact ⟨fun _ => K, fun q => absurd (nI_le (Nat.le_refl _) (by omega)) q⟩
    · intro i _ hi hz ih
      have hg := (wP hkB (B := s.B) (c := i) (decide_eq_true hi)).2.2
      have yes : fiF s.B s.nw x1.toInt i = true → Q (some (.int (nI i))) s1 := fun e => by
        have := fsT_s hz
        rw [if_pos e] at this
        rw [fsT_st this (bN s.B) (by omega), show iI ((i : Nat) : Int) = nI i from (iI_nI i).symm] at K
        exact K
      have no : fiF s.B s.nw x1.toInt i = false → G Θ (d + 3) 274 28 [some (.ref 124), some (.int x1), some (.int (sX (mk0 s.B s.nw))), some (.int (sX (mk1R s.B s.nw))), some (.int (nI (i + 1)))] [] s1 Q := fun e => ih () (by
        rw [fsT_s hz, if_neg (by rw [e]; decide)]; decide)
      have ef : fiF s.B s.nw x1.toInt i = ((mk0 s.B s.nw i && decide (x1.toInt < (bG s.B i : Int))) || (mk1R s.B s.nw i && decide ((bG s.B i : Int) < x1.toInt))) := rfl
      have lA : x1 ≤ nI (bG s.B i) ↔ x1.toInt ≤ (bG s.B i : Int) := by rw [i_le, nI_int (by omega)]
      have lB : x1 < nI (bG s.B i) ↔ x1.toInt < (bG s.B i : Int) := by rw [i_lt, nI_int (by omega)]
      have vi := vp_in_nI (show i < 16 by omega) (by decide)
      have b1 : ∀ b, b01 b = 1 ↔ b = true := by decide
      refine B274_28 ?_
      rw [hn, sX_shr _ (by omega), sX_shr _ (by omega), nI_clamp (by omega), hR1.2.1.2.1.2.2.2.1 i (by omega), lA, lB, b1, b1, nI_1]
      refine ⟨fun q => absurd q (nI_ge hi (by omega)), fun _ => ⟨fun a => ⟨fun b => no (by simp at a b; rw [ef, a, b]; rfl), fun b => ⟨vi, fun u => no (by simp at a; rw [ef, a, decide_eq_false (show ¬ (bG s.B i : Int) < x1.toInt by omega)]; simp), fun u => yes (by rw [ef, b, decide_eq_true (show (bG s.B i : Int) < x1.toInt by omega)]; simp)⟩⟩, fun a => ⟨vi, fun u => yes (by rw [ef, a, decide_eq_true (show x1.toInt < (bG s.B i : Int) by omega)]; simp), fun u => ⟨fun b => no (by simp at b; rw [ef, b, decide_eq_false (show ¬ x1.toInt < (bG s.B i : Int) by omega)]; simp), fun b => ⟨vi, fun v => no (by rw [ef, decide_eq_false (show ¬ x1.toInt < (bG s.B i : Int) by omega), decide_eq_false (show ¬ (bG s.B i : Int) < x1.toInt by omega)]; simp), fun v => yes (by rw [ef, b, decide_eq_true (show (bG s.B i : Int) < x1.toInt by omega)]; simp)⟩⟩⟩⟩⟩
  · rw [b01_0] at y; rw [y] at K; exact K σ cR_rfl h
end ans10
