/-! THE CALLS: grid, loses, best -/
noncomputable def grB (B : Bk) (x1 x2 : Int32) : Bool := dP (isN x1 (bM B)) && (dP (isN x2 (bM B)) && decide (x1.toInt < x2.toInt))
noncomputable def qGr (B : Bk) (x1 x2 x3 : Int32) : Int64 := if grB B x1 x2 = true then (if dP (isN x3 2) = true then rp (qC B (dG B x1.toNatClampNeg x2.toNatClampNeg) (Al B)) x3 else -1) else -1
noncomputable def qLo (B : Bk) (x1 x2 x3 : Int32) : Int64 := if grB B x1 x2 = true then (if dP (isN x3 2) = true then rp (qC B (dG B x1.toNatClampNeg x2.toNatClampNeg) (Al B) + -qC B (dO B) (Al B)) x3 else -1000000000000) else -1000000000000
theorem grB_ex {B : Bk} {x1 x2 : Int32} (hm : bM B ≤ 6) (h : grB B x1 x2 = true) : ∃ a b, a < b ∧ b < bM B ∧ x1 = nI a ∧ x2 = nI b := by
  unfold grB at h
  rw [Bool.and_eq_true, Bool.and_eq_true, decide_eq_true_eq] at h
  obtain ⟨a, ha, e1⟩ := isN_ex (dP_iff.mp h.1) (by omega)
  obtain ⟨b, hb, e2⟩ := isN_ex (dP_iff.mp h.2.1) (by omega)
  have := h.2.2
  rw [e1, e2, nI_int (by omega), nI_int (by omega)] at this
  exact ⟨a, b, by omega, hb, e1, e2⟩
theorem bm6 {B : Bk} {lv : Nat} (hk : BkOk lv B) : bM B ≤ 6 := by have := hk.1; omega
/-- the difference of two costs, as the programs reckon it -/
theorem diff_ok {a b : Rat} (ha : 0 ≤ a ∧ a ≤ ((921600 : Nat) : Rat)) (hb : 0 ≤ b ∧ b ≤ ((921600 : Nat) : Rat)) (da : a.den ≤ 2300000) (db : b.den ≤ 2300000) :
    a.den < 2 ^ 49 ∧ Nat.lcm a.den b.den < 2 ^ 49 ∧ -9000000000000000000 < a.num * ((b.den / Nat.gcd a.den b.den : Nat) : Int) + (-b.num) * ((a.den / Nat.gcd a.den b.den : Nat) : Int) ∧ a.num * ((b.den / Nat.gcd a.den b.den : Nat) : Int) + (-b.num) * ((a.den / Nat.gcd a.den b.den : Nat) : Int) < 9000000000000000000 := by
  have h1 := num_b ha.1 ha.2
  have h2 := num_b hb.1 hb.2
  have bd : ∀ x : Int, ∀ y z : Nat, 0 ≤ x → x ≤ 921600 * (y : Int) → y ≤ 2300000 → z ≤ 2300000 → 0 ≤ x * (z : Int) ∧ x * (z : Int) ≤ 921600 * 2300000 * 2300000 := fun x y z hx hy h3 h4 => by
    refine ⟨Int.mul_nonneg hx (Int.natCast_nonneg _), ?_⟩
    exact Int.mul_le_mul (c := (921600 * 2300000 : Int)) (d := (2300000 : Int)) (by omega) (by omega) (Int.natCast_nonneg _) (by decide)
  have b1 := bd a.num a.den (b.den / Nat.gcd a.den b.den) h1.1 h1.2 da (Nat.le_trans (Nat.div_le_self _ _) db)
  have b2 := bd b.num b.den (a.den / Nat.gcd a.den b.den) h2.1 h2.2 db (Nat.le_trans (Nat.div_le_self _ _) da)
  have b3 : Nat.lcm a.den b.den ≤ 2300000 * 2300000 := Nat.le_trans (Nat.div_le_self _ _) (Nat.mul_le_mul da db)
  refine ⟨by omega, by omega, ?_, ?_⟩
  · rw [Int.neg_mul]; omega
  · rw [Int.neg_mul]; omega
theorem mk_neg (b : Rat) : mkRat (-b.num) b.den = -b := by
  rw [← Rat.neg_mkRat, Rat.mkRat_self]
/-! the best pair -/
theorem nI_neg1 {n : Nat} (h : n < 100) : ¬ nI n = -1 := fun q => by
  have := congrArg Int32.toInt q
  rw [nI_int (by omega)] at this
  have e : (-1 : Int32).toInt = -1 := by decide
  omega
theorem BsG_0 {B : Bk} {r : Rat} : BsG B 0 1 (-1) r := Or.inl ⟨rfl, fun a' b' h _ q => by omega⟩
theorem BsG_row {B : Bk} {a : Nat} {v : Int32} {r : Rat} (h : BsG B a (bM B) v r) : BsG B (a + 1) (a + 2) v r := by
  rcases h with ⟨h1, h2⟩ | ⟨x, y, ⟨⟨p1, p2, p3⟩, p4, p5⟩, h2⟩
  · exact Or.inl ⟨h1, fun a' b' q1 q2 q3 => h2 a' b' q1 q2 (by omega)⟩
  · exact Or.inr ⟨x, y, ⟨⟨p1, p2, by omega⟩, p4, fun a' b' r' q1 q2 q3 => p5 a' b' r' q1 q2 (by omega)⟩, h2⟩
theorem BsG_new {B : Bk} {lv a b : Nat} {v : Int32} {r q : Rat} (hk : BkOk lv B) (h : BsG B a b v r) (hab : a < b) (hb : b < bM B) (hq : CstV B (dG B a b) (Al B) q) (hd : q.den ≤ 2300000) (hlt : v = -1 ∨ q < r) : BsG B a (b + 1) (nI (10 * a + b)) q := by
  have bq := qC_b hk hq
  refine Or.inr ⟨a, b, ⟨⟨hab, hb, Or.inr ⟨rfl, by omega⟩⟩, hq, fun a' b' r' q1 q2 q3 q4 => ?_⟩, rfl, hd, bq⟩
  by_cases e : a' = a ∧ b' = b
  · obtain ⟨rfl, rfl⟩ := e
    have := cst_one hk (fun c hc => al_lt hc) hq q4
    exact ⟨this ▸ Rat.le_refl, fun _ => Or.inr ⟨rfl, Nat.le_refl _⟩⟩
  · have q3' : a' < a ∨ (a' = a ∧ b' < b) := by omega
    rcases h with ⟨h1, h2⟩ | ⟨x, y, ⟨⟨u1, u2, -⟩, p4, p5⟩, hv, -⟩
    · exact absurd q3' (h2 a' b' q1 q2)
    · have hlt : q < r := by
        rcases hlt with z | z
        · have hx : x < 6 ∧ y < 6 := by have := bm6 hk; omega
          rw [z] at hv
          exact absurd hv.symm (nI_neg1 (by omega))
        · exact z
      obtain ⟨p6, p7⟩ := p5 a' b' r' q1 q2 q3' q4
      exact ⟨Rat.le_trans (Rat.le_of_lt hlt) p6, fun e => by rw [e] at p6; exact absurd hlt (Rat.not_lt.mpr p6)⟩
theorem BsG_old {B : Bk} {lv a b : Nat} {v : Int32} {r q : Rat} (hk : BkOk lv B) (h : BsG B a b v r) (hv : ¬ v = -1) (hab : a < b) (hb : b < bM B) (hq : CstV B (dG B a b) (Al B) q) (hle : r ≤ q) : BsG B a (b + 1) v r := by
  rcases h with ⟨h1, h2⟩ | ⟨x, y, ⟨⟨p1, p2, p3⟩, p4, p5⟩, h2⟩
  · exact absurd h1 hv
  · refine Or.inr ⟨x, y, ⟨⟨p1, p2, by omega⟩, p4, fun a' b' r' q1 q2 q3 q4 => ?_⟩, h2⟩
    by_cases e : a' = a ∧ b' = b
    · obtain ⟨rfl, rfl⟩ := e
      have := cst_one hk (fun c hc => al_lt hc) hq q4
      rw [← this]
      exact ⟨hle, fun _ => by omega⟩
    · exact p5 a' b' r' q1 q2 (by omega) q4
theorem BsG_cl {B : Bk} {lv a b : Nat} {v : Int32} {r : Rat} (hk : BkOk lv B) (h : BsG B a b v r) : (v = -1 ∧ v < 0) ∨ ∃ x y, x < 6 ∧ y < 6 ∧ v = nI (10 * x + y) ∧ ¬ v < 0 ∧ ¬ v = -1 := by
  rcases h with ⟨h1, h2⟩ | ⟨x, y, ⟨⟨p1, p2, p3⟩, -⟩, hv, -⟩
  · exact Or.inl ⟨h1, by rw [h1]; decide⟩
  · have := bm6 hk
    refine Or.inr ⟨x, y, by omega, by omega, hv, ?_, ?_⟩
    · rw [hv, i_lt, nI_int (by omega)]; show ¬ ((10 * x + y : Nat) : Int) < 0; omega
    · rw [hv]; intro q
      have := congrArg Int32.toInt q
      rw [nI_int (by omega)] at this
      have e : (-1 : Int32).toInt = -1 := by decide
      omega
theorem BsG_one {B : Bk} {c c' : Nat} {v v' : Int32} {r r' : Rat} (h : BsG B (bM B) c v r) (h' : BsG B (bM B) c' v' r') : v = v' := by
  have all : ∀ c a b, a < b → b < bM B → a < bM B ∨ (a = bM B ∧ b < c) := fun c a b h1 h2 => Or.inl (by omega)
  rcases h with ⟨h1, h2⟩ | ⟨x, y, ⟨⟨p1, p2, p3⟩, p4, p5⟩, hv, -⟩
  · rcases h' with ⟨h1', h2'⟩ | ⟨x', y', ⟨⟨p1', p2', p3'⟩, p4', p5'⟩, hv', -⟩
    · rw [h1, h1']
    · exact absurd (all c x' y' p1' p2') (h2 x' y' p1' p2')
  · rcases h' with ⟨h1', h2'⟩ | ⟨x', y', ⟨⟨p1', p2', p3'⟩, p4', p5'⟩, hv', -⟩
    · exact absurd (all c' x y p1 p2) (h2' x y p1 p2)
    · obtain ⟨a1, a2⟩ := p5 x' y' r' p1' p2' (all c x' y' p1' p2') p4'
      obtain ⟨b1, b2⟩ := p5' x y r p1 p2 (all c' x y p1 p2) p4
      have e := Rat.le_antisymm a1 b1
      have a3 := a2 e.symm
      have b3 := b2 e
      have : x = x' ∧ y = y' := by omega
      rw [hv, hv', this.1, this.2]
theorem qBe_is {B : Bk} {c : Nat} {v : Int32} {r : Rat} (h : BsG B (bM B) c v r) : v = qBe B := by
  obtain ⟨c', r', h'⟩ := Classical.epsilon_spec (p := fun v => ∃ c r, BsG B (bM B) c v r) ⟨v, c, r, h⟩
  exact BsG_one h h'
theorem qBe_no {B : Bk} (h : bM B ≤ 1) : qBe B = -1 := (qBe_is (B := B) (c := 0) (v := -1) (r := 0) (Or.inl ⟨rfl, fun a' b' q1 q2 _ => by omega⟩)).symm
section ans4
variable {Θ : Th} {d : Nat} {σ : Mem} {Q : Po} {s : St}
theorem k158 {r o : Nat} {x1 x2 : Int32} (hB : RB s r o σ) (ok : OkS s) (k : Q (some (.int (b01 (grB s.B x1 x2)))) σ) : Cm Θ (d + 1) 158 [.ref 0, .int x1, .int x2] σ Q := by
  obtain ⟨r1, r2, r3, r4⟩ := rB_r hB
  have hm := bm6 ok.2.1.1
  have hn := hB.2.2.1.1.2.1.1
  unfold grB at k
  refine K158 (B158_0 ?_)
  rw [r1]
  refine ⟨r2, r3, c11' r3 hn (by omega) ⟨_, rfl, fun z => ?_, fun z => ?_⟩⟩
  · rw [b01_0] at z; rw [z] at k; exact k
  rw [b01_n] at z
  rw [r1]
  refine ⟨r2, r3, c11' r3 hn (by omega) ⟨_, rfl, fun y => ?_, fun y => ⟨fun w => ?_, fun w => ?_⟩⟩⟩
  · rw [b01_0] at y; rw [z, y] at k; exact k
  · rw [b01_n] at y; rw [i_le] at w; rw [z, y, decide_eq_false (by omega)] at k; exact k
  · rw [b01_n] at y; rw [i_le] at w; rw [z, y, decide_eq_true (by omega)] at k; exact k
theorem k232 {x1 x2 : Int32} (h : RR s σ) (ok : OkS s) (k : Q (some (.int (b01 (grB s.B x1 x2)))) σ) : Cm Θ (d + 1) 232 [.ref 124, .int x1, .int x2] σ Q := by
  have hm := bm6 ok.2.1.1
  have hn := h.2.1.1.1
  unfold grB at k
  refine K232 (B232_0 (c201 hn (by omega) ⟨_, rfl, fun z => ?_, fun z => c201 hn (by omega) ⟨_, rfl, fun y => ?_, fun y => ⟨fun w => ?_, fun w => ?_⟩⟩⟩))
  · rw [b01_0] at z; rw [z] at k; exact k
  · rw [b01_n] at z; rw [b01_0] at y; rw [z, y] at k; exact k
  · rw [b01_n] at y z; rw [i_le] at w; rw [z, y, decide_eq_false (by omega)] at k; exact k
  · rw [b01_n] at y z; rw [i_le] at w; rw [z, y, decide_eq_true (by omega)] at k; exact k
theorem k163' {r o a b : Nat} (hB : RB s r o σ) (kn : Kn s.B σ) (ok : OkS s) (hab : a < b) (hb : b < bM s.B) (K : ∀ σ' q, CC σ σ' → RB s r o σ' → Kn s.B σ' → Fr lsG σ σ' → (CstV s.B (dG s.B a b) (Al s.B) q ∧ q.den ≤ 2300000 ∧ (0 ≤ q ∧ q ≤ ((921600 : Nat) : Rat)) ∧ q = qC s.B (dG s.B a b) (Al s.B) ∧ σ'.2.1 105 0 = jJ q.num ∧ σ'.2.1 105 1 = jJ (q.den : Nat)) → Q (some (.ref 105)) σ') : Cm Θ (d + 6) 163 [.ref 0, .int (nI a), .int (nI b)] σ Q := by
  have hm := bm6 ok.2.1.1
  refine k163 (rB_r hB).1 hB.2.2.1.1 ok (by omega) (by omega) fun s1 f1 q1 => ?_
  obtain ⟨q, hq⟩ := SqC_r ok.2.1.1 q1
  exact K s1 q (cC_fr f1 fun x hx => by simp [lsG] at hx; omega) (RB_fr hB f1 (f1 0 (by simp [lsG])).2.2 fun x hx => by simp [lsG] at hx; omega) (Kn_fr kn f1 (by rw [(f1 0 (by simp [lsG])).1]; exact ⟨rfl, rfl⟩) (by rw [(f1 110 (by simp [lsG])).1]; exact ⟨rfl, rfl, rfl⟩) fun x hx => by simp [lsG] at hx; omega) f1 hq
theorem k130 {x1 x2 x3 : Int32} (h : RC s σ) (ok : OkS s) (K : ∀ σ', CC σ σ' → RC s σ' → Q (some (.long (qGr s.B x1 x2 x3))) σ') : Cm Θ (d + 7) 130 [.ref 0, .int x1, .int x2, .int x3] σ Q := by
  obtain ⟨r, o, hB, kn⟩ := id h
  have hm := bm6 ok.2.1.1
  unfold qGr at K
  refine K130 (B130_0 (k158 (d := d + 5) hB ok ⟨_, rfl, fun z => ?_, fun z => c155 ⟨_, rfl, fun y => ?_, fun y => ?_⟩⟩))
  · rw [b01_0] at z; rw [z] at K; exact K σ cC_rfl h
  · rw [b01_n] at z y
    obtain ⟨a, b, hab, hb, e1, e2⟩ := grB_ex hm z
    rw [if_pos z, if_pos y, e1, e2, nI_clamp (by omega), nI_clamp (by omega)] at K
    rw [e1, e2]
    refine k163' (d := d) hB kn ok hab hb fun s1 q cc hB1 kn1 _ ⟨_, _, _, e, g1, g2⟩ => ⟨105, rfl, rfl, c49 rfl ⟨_, rfl, ?_⟩⟩
    rw [rp_i g1 g2, e]
    exact K s1 cc ⟨r, o, hB1, kn1⟩
  · rw [b01_n] at z; rw [b01_0] at y; rw [if_pos z, y] at K; exact K σ cC_rfl h
theorem k197 {a b : Nat} (h : RR s σ) (ok : OkS s) (ha : a < 16) (hb : b < 16) (K : ∀ σ', QR σ σ' → RR s σ' → OrR s.B (dG s.B a b) σ' → Q none σ') : Cm Θ (d + 1) 197 [.ref 124, .int (((1 : Int32) <<< (nI a &&& 31)) ||| ((1 : Int32) <<< (nI b &&& 31))), .int 0] σ Q := by
  rw [sX_1 ha, sX_1 hb, sX_or]
  refine Cm.mono (c197 (told := false) h.2.1 ok.2.1.1) fun v s1 ⟨e, f1, o1⟩ => ?_
  subst e
  have q := qR_fr f1 fun x hx => by simp at hx; omega
  exact K s1 q (RR_Q h q.2) o1
/-- the reference's fit by squares, by these marks alone -/
theorem fitR {D : Nat → Nat → Bool} {P : Mem → Prop} (h : RR s σ) (ok : OkS s) (o1 : OrR s.B D σ) (hO : DOk (bN s.B) D) (K : ∀ σ' q, QR σ σ' → RR s σ' → (CstV s.B D (Al s.B) q ∧ q.den ≤ 2300000 ∧ (0 ≤ q ∧ q ≤ ((921600 : Nat) : Rat)) ∧ q = qC s.B D (Al s.B) ∧ σ'.2.1 124 44 = jJ q.num ∧ σ'.2.1 124 45 = jJ (q.den : Nat)) → P σ') : Ci Θ (d + 4) 219 [.ref 124] σ (fun v σ' => Cv Θ (d + 4) 217 [.ref 124, .int v] σ' P) := by
  refine c219 h.2.1.2.1.1 (bk16 ok) ⟨_, rfl, ?_⟩
  refine k217 (d := d) h ok (fun c hc => (o1 c hc).1) hO fun s2 q2 hR2 g2 => ⟨rfl, ?_⟩
  obtain ⟨q, hq⟩ := SqR_r ok.2.1.1 g2
  exact K s2 q q2 hR2 hq
theorem k233 {x1 x2 x3 : Int32} (h : RR s σ) (ok : OkS s) (K : ∀ σ', CR σ σ' → RR s σ' → Q (some (.long (qGr s.B x1 x2 x3))) σ') : Cm Θ (d + 5) 233 [.ref 124, .int x1, .int x2, .int x3] σ Q := by
  have hm := bm6 ok.2.1.1
  unfold qGr at K
  refine K233 (B233_0 (k232 (d := d + 3) h ok ⟨_, rfl, fun z => ?_, fun z => c213 ⟨_, rfl, fun y => ?_, fun y => ?_⟩⟩))
  · rw [b01_0] at z; rw [z] at K; exact K σ cR_rfl h
  · rw [b01_n] at z y
    obtain ⟨a, b, hab, hb, e1, e2⟩ := grB_ex hm z
    rw [if_pos z, if_pos y, e1, e2, nI_clamp (by omega), nI_clamp (by omega)] at K
    rw [e1, e2]
    refine k197 (d := d + 3) h ok (by omega) (by omega) fun s1 q1 hR1 o1 => ⟨rfl, ?_⟩
    refine fitR (d := d) hR1 ok o1 (dOk s.B _ _) fun s2 q q2 hR2 ⟨_, _, _, e, g1, g2⟩ => c214 ⟨_, rfl, ?_⟩
    rw [rp_i g1 g2, e]
    exact K s2 (cR_tr q1.1 q2.1) hR2
  · rw [b01_n] at z; rw [b01_0] at y; rw [if_pos z, y] at K; exact K σ cR_rfl h
theorem k131 {x1 x2 x3 : Int32} (h : RC s σ) (ok : OkS s) (K : ∀ σ', CC σ σ' → RC s σ' → Q (some (.long (qLo s.B x1 x2 x3))) σ') : Cm Θ (d + 7) 131 [.ref 0, .int x1, .int x2, .int x3] σ Q := by
  obtain ⟨r, o, hB, kn⟩ := id h
  have hm := bm6 ok.2.1.1
  have hkB := ok.2.1.1
  unfold qLo at K
  refine K131 (B131_0 (k158 (d := d + 5) hB ok ⟨_, rfl, fun z => ?_, fun z => c155 ⟨_, rfl, fun y => ?_, fun y => ?_⟩⟩))
  · rw [b01_0] at z; rw [z] at K; exact K σ cC_rfl h
  · rw [b01_n] at z y
    obtain ⟨a, b, hab, hb, e1, e2⟩ := grB_ex hm z
    rw [if_pos z, if_pos y, e1, e2, nI_clamp (by omega), nI_clamp (by omega)] at K
    rw [e1, e2]
    refine k161' (d := d) hB kn ok fun s0 c0 hB0 kn0 sq0 => ⟨92, rfl, rfl, ?_⟩
    refine k163' (d := d) hB0 kn0 ok hab hb fun s1 q c1 hB1 kn1 f1 ⟨_, qd, qb, e, g1, g2⟩ => ⟨105, rfl, rfl, ?_⟩
    have sq1 : KSq s.B s1 := SqC_f2 sq0 f1 fun x x1 x2 z => by simp [lsG] at z; omega
    obtain ⟨p, -, pd, pb, pe, -, -⟩ := SqC_r hkB sq1
    try dsimp only
    rw [g1, g2]
    have nb := num_b qb.1 qb.2
    refine c47k (d := d + 5) hB1 kn1 (by omega) (by omega) q.den_pos (by omega) fun s2 c2 hB2 kn2 f2 g3 => ⟨rfl, ?_⟩
    rw [Rat.mkRat_self] at g3
    have sq2 : KSq s.B s2 := SqC_f2 sq1 f2 fun x x1 x2 z => by simp at z; omega
    obtain ⟨p', -, pd', pb', pe', p1, p2⟩ := SqC_r hkB sq2
    try dsimp only
    rw [p1, p2, jJ_neg]
    obtain ⟨w1, w2, w3, w4⟩ := diff_ok qb pb' qd pd'
    refine c48 (d := d + 4) rfl g3 w1 p'.den_pos w2 w3 w4 ⟨rfl, ?_⟩
    have f3 := frW_f s2 123 0 1 (q + mkRat (-p'.num) p'.den)
    obtain ⟨a3, b3, c3⟩ := RB_x hB2 kn2 f3
    obtain ⟨g4, g5⟩ := frW_0 s2 123 (i := 0) (j := 1) (by decide) (q + mkRat (-p'.num) p'.den)
    refine c49 rfl ⟨_, rfl, ?_⟩
    rw [← e, ← pe', ← mk_neg] at K
    rw [rp_i g4 g5]
    exact K _ (cC_tr c0 (cC_tr c1 (cC_tr c2 a3))) ⟨r, o, b3, c3⟩
  · rw [b01_n] at z; rw [b01_0] at y; rw [if_pos z, y] at K; exact K σ cC_rfl h
theorem k234 {x1 x2 x3 : Int32} (h : RR s σ) (ok : OkS s) (K : ∀ σ', CR σ σ' → RR s σ' → Q (some (.long (qLo s.B x1 x2 x3))) σ') : Cm Θ (d + 5) 234 [.ref 124, .int x1, .int x2, .int x3] σ Q := by
  have hm := bm6 ok.2.1.1
  unfold qLo at K
  refine K234 (B234_0 (k232 (d := d + 3) h ok ⟨_, rfl, fun z => ?_, fun z => c213 ⟨_, rfl, fun y => ?_, fun y => ?_⟩⟩))
  · rw [b01_0] at z; rw [z] at K; exact K σ cR_rfl h
  · rw [b01_n] at z y
    obtain ⟨a, b, hab, hb, e1, e2⟩ := grB_ex hm z
    rw [if_pos z, if_pos y, e1, e2, nI_clamp (by omega), nI_clamp (by omega)] at K
    rw [e1, e2]
    refine k198 (d := d + 2) h ok fun s0 c0 hR0 o0 => ⟨rfl, ?_⟩
    refine fitR (d := d) hR0 ok o0 (dOk s.B _ _) fun s1 p q1 hR1 ⟨_, pd, pb, pe, p1, p2⟩ => ?_
    refine k197 (d := d + 3) hR1 ok (by omega) (by omega) fun s2 q2 hR2 o2 => ⟨rfl, ?_⟩
    refine fitR (d := d) hR2 ok o2 (dOk s.B _ _) fun s3 q q3 hR3 ⟨_, qd, qb, e, g1, g2⟩ => ?_
    rw [p1, p2, jJ_neg]
    obtain ⟨w1, w2, w3, w4⟩ := diff_ok qb pb qd pd
    refine c212 (d := d + 2) ⟨g1, g2⟩ w1 p.den_pos w2 w3 w4 ⟨rfl, ?_⟩
    have q4 := qR_fw s3 (q + mkRat (-p.num) p.den)
    obtain ⟨g4, g5⟩ := frW_0 s3 124 (i := 44) (j := 45) (by decide) (q + mkRat (-p.num) p.den)
    refine c214 ⟨_, rfl, ?_⟩
    rw [← e, ← pe, ← mk_neg] at K
    rw [rp_i g4 g5]
    exact K _ (cR_tr c0 (cR_tr q1.1 (cR_tr q2.1 (cR_tr q3.1 q4.1)))) (RR_Q hR3 q4.2)
  · rw [b01_n] at z; rw [b01_0] at y; rw [if_pos z, y] at K; exact K σ cR_rfl h
theorem k164 {r o : Nat} (hB : RB s r o σ) (kn : Kn s.B σ) (ok : OkS s) (h2 : 2 ≤ bM s.B) (K : ∀ σ', CC σ σ' → RB s r o σ' → Kn s.B σ' → (∃ a b, qBe s.B = nI (10 * a + b)) → Q (some (.int (qBe s.B))) σ') : Cm Θ (d + 7) 164 [.ref 0] σ Q := by
  have hm := bm6 ok.2.1.1
  have hkB := ok.2.1.1
  have md : ∀ t, RB s r o t → t.2.2 0 2 = r ∧ r ≠ 0 ∧ (shq r).1 = 1 ∧ t.1 r 0 = nI (bM s.B) := fun t ht => ⟨(rB_r ht).1, (rB_r ht).2.1, (rB_r ht).2.2.1, ht.2.2.1.1.2.1.1⟩
  refine K164 (B164_0 ?_)
  have row := loopS (α := Mem × Int32 × Rat) (I := fun a z => (CC σ z.1 ∧ RB s r o z.1 ∧ Kn s.B z.1) ∧ BsG s.B a (a + 1) z.2.1 z.2.2 ∧ (¬ z.2.1 < 0 → z.1.2.1 123 0 = jJ z.2.2.num ∧ z.1.2.1 123 1 = jJ (z.2.2.den : Nat))) (P := fun a z => G Θ (d + 7) 164 4 [some (.ref 0), some (.int z.2.1), some (.int (nI a)), none, none] [] z.1 Q) (bM s.B) ?_ ?_ (σ, -1, 0) ⟨⟨cC_rfl, hB, kn⟩, BsG_0, fun q => absurd (show (-1 : Int32) < 0 by decide) q⟩
  · exact row
  · intro ⟨t, v, q⟩ ⟨⟨c1, c2, c3⟩, c4, _⟩
    obtain ⟨r1, r2, r3, hn⟩ := md t c2
    refine B164_4 ?_
    rw [r1, hn]
    refine ⟨r2, r3, fun _ => ?_, fun z => absurd (nI_le (Nat.le_refl _) (by omega)) z⟩
    have ex : ∃ a b, qBe s.B = nI (10 * a + b) := by
      have e := qBe_is c4
      rcases c4 with ⟨w1, w2⟩ | ⟨x, y, _, hv, _⟩
      · exact absurd (show 0 < bM s.B ∨ (0 = bM s.B ∧ 1 < bM s.B + 1) by omega) (w2 0 1 (by omega) (by omega))
      · exact ⟨x, y, by rw [← e]; exact hv⟩
    rw [qBe_is c4]; exact K t c1 c2 c3 ex
  · intro a ⟨t, v, q⟩ ha ⟨⟨c1, c2, c3⟩, c4, c5⟩ ih
    obtain ⟨r1, r2, r3, hn⟩ := md t c2
    refine B164_4 ?_
    rw [r1, hn, nI_1]
    refine ⟨r2, r3, fun z => absurd z (nI_ge ha (by omega)), fun _ => ?_⟩
    have col := loopS (α := Mem × Int32 × Rat) (I := fun j z => (CC σ z.1 ∧ RB s r o z.1 ∧ Kn s.B z.1) ∧ BsG s.B a (a + 1 + j) z.2.1 z.2.2 ∧ (¬ z.2.1 < 0 → z.1.2.1 123 0 = jJ z.2.2.num ∧ z.1.2.1 123 1 = jJ (z.2.2.den : Nat))) (P := fun j z => G Θ (d + 7) 164 19 [some (.ref 0), some (.int z.2.1), some (.int (nI a)), some (.int (nI (a + 1 + j))), none] [] z.1 Q) (bM s.B - (a + 1)) ?_ ?_ (t, v, q) ⟨⟨c1, c2, c3⟩, c4, c5⟩
    · exact col
    · intro ⟨t, v, q⟩ ⟨⟨c1, c2, c3⟩, c4, c5⟩
      obtain ⟨r1, r2, r3, hn⟩ := md t c2
      refine B164_19 ?_
      rw [r1, hn, nI_1]
      refine ⟨r2, r3, fun _ => ?_, fun z => absurd (nI_le (by omega) (by omega)) z⟩
      refine ih (t, v, q) ⟨⟨c1, c2, c3⟩, BsG_row ?_, c5⟩
      have : a + 1 + (bM s.B - (a + 1)) = bM s.B := by omega
      rw [this] at c4; exact c4
    · intro j ⟨t, v, q⟩ hj ⟨⟨c1, c2, c3⟩, c4, c5⟩ ih2
      have c4 : BsG s.B a (a + 1 + j) v q := c4
      have c5 : ¬ v < 0 → t.2.1 123 0 = jJ q.num ∧ t.2.1 123 1 = jJ (q.den : Nat) := c5
      obtain ⟨r1, r2, r3, hn⟩ := md t c2
      have hab : a < a + 1 + j := by omega
      have hbm : a + 1 + j < bM s.B := by omega
      refine B164_19 ?_
      rw [r1, hn, nI_1, nI_1]
      refine ⟨r2, r3, fun z => absurd z (nI_ge (by omega) (by omega)), fun _ => ?_⟩
      refine k163' (d := d) c2 c3 ok (b := a + 1 + j) (by omega) (by omega) fun s1 p cc hB1 kn1 f1 ⟨pc, pd, pb, pe, g1, g2⟩ => ⟨105, rfl, rfl, ?_⟩
      try dsimp only
      rw [g1, g2]
      have nb := num_b pb.1 pb.2
      have put : (v = -1 ∨ p < q) → Cv Θ (d + 6) 47 [.ref 123, .long (jJ p.num), .long (jJ (p.den : Nat))] s1 (fun σ5 => G Θ (d + 7) 164 19 [some (.ref 0), some (.int ((10 * nI a) + nI (a + 1 + j))), some (.int (nI a)), some (.int (nI (a + 1 + j + 1))), none] [] σ5 Q) := fun hlt => by
        refine c47k (d := d + 5) hB1 kn1 (by omega) (by omega) p.den_pos (by omega) fun s2 cc2 hB2 kn2 f2 g3 => ⟨rfl, ?_⟩
        rw [Rat.mkRat_self] at g3
        have := ih2 (s2, nI (10 * a + (a + 1 + j)), p) ⟨⟨cC_tr c1 (cC_tr cc cc2), hB2, kn2⟩, BsG_new hkB c4 hab hbm pc pd hlt, fun _ => g3⟩
        have e : (10 : Int32) * nI a + nI (a + 1 + j) = nI (10 * a + (a + 1 + j)) := by
          rw [show (10 : Int32) = nI 10 from rfl, pk_mul, nI_add]
        rw [e]; exact this
      have cl := BsG_cl hkB c4
      refine ⟨fun z => put (Or.inl ?_), fun z => ?_⟩
      · rcases cl with w | ⟨x, y, -, -, -, w, -⟩
        · exact w.1
        · exact absurd z w
      · have g4 := c5 z
        have h123 : s1.2.1 123 = t.2.1 123 := (f1 123 (by simp [lsG])).2.1
        have c4' := c4
        rcases c4 with ⟨w1, w2⟩ | ⟨x, y, -, -, qd, q0, qb⟩
        · exact absurd (by rw [w1]; decide) z
        · rw [h123, g4.1, g4.2]
          have w : (((921600 : Nat) : Rat)) ≤ ((3686400 : Nat) : Rat) := Rat.natCast_le_natCast.mpr (by decide)
          refine c51r (d := d + 5) pb.1 q0 pd qd (Rat.le_trans pb.2 w) (Rat.le_trans qb w) ⟨_, rfl, fun y2 => ?_, fun y2 => ?_⟩
          · have hle : q ≤ p := by
              rcases Rat.le_total (a := q) (b := p) with u | u
              · exact u
              · rw [i_le, iI_toInt (by have := sgR_b p q; omega) (by have := sgR_b p q; omega)] at y2
                have y2 : (0 : Int) ≤ sgR p q := y2
                unfold sgR at y2
                split at y2
                · omega
                · rename_i hh; exact Rat.not_lt.mp hh
            exact ih2 (s1, v, q) ⟨⟨cC_tr c1 cc, hB1, kn1⟩, BsG_old hkB c4' (by rcases cl with w | ⟨_, _, _, _, _, _, w⟩; exact absurd w.2 z; exact w) hab hbm pc hle, fun _ => by rw [h123]; exact g4⟩
          · have hlt : p < q := by
              rw [i_le, iI_toInt (by have := sgR_b p q; omega) (by have := sgR_b p q; omega)] at y2
              have y2 : ¬ (0 : Int) ≤ sgR p q := y2
              unfold sgR at y2
              split at y2
              · rename_i hh; exact hh
              · split at y2 <;> omega
            try dsimp only
            rw [g1, g2]
            exact put (Or.inr hlt)
theorem k132 (h : RC s σ) (ok : OkS s) (K : ∀ σ', CC σ σ' → RC s σ' → Q (some (.int (qBe s.B))) σ') : Cm Θ (d + 8) 132 [.ref 0] σ Q := by
  obtain ⟨r, o, hB, kn⟩ := id h
  obtain ⟨r1, r2, r3, r4⟩ := rB_r hB
  have hm := bm6 ok.2.1.1
  obtain ⟨k, k1, k2, k3, k4, k5, k6, k7⟩ := id kn
  have hn := hB.2.2.1.1.2.1.1
  refine K132 (B132_0 ?_)
  rw [r1, hn, k2, (kbit k1).2.2.2.2]
  have two : (2 : Int32) ≤ nI (bM s.B) ↔ 2 ≤ bM s.B := by
    rw [i_le, nI_int (by omega)]; show (2 : Int) ≤ _ ↔ _; omega
  rw [two]
  refine ⟨r2, r3, fun h2 => ⟨fun q => ?_, fun q => ?_⟩, fun z => ?_⟩
  · obtain ⟨a, b, g1, g2⟩ := k7 (by simpa using q)
    have g1 : qBe s.B = nI (10 * a + b) := g1
    rw [g2, ← g1]; exact K σ cC_rfl h
  · refine k164 (d := d) hB kn ok h2 fun s1 cc hB1 kn1 ⟨a, b, eb⟩ => ⟨_, rfl, ?_⟩
    have fr : Fr [0] s1 (sI s1 0 16 (qBe s.B)) := Fr.rfl.I (by simp)
    obtain ⟨k', k1', k2', k3', k4', k5', k6', k7'⟩ := id kn1
    have e17 : (sI s1 0 16 (qBe s.B)).1 0 17 = nI k' := by rw [sI_of _ _ (by omega)]; exact k2'
    have kn2 := Kn_set (B := s.B) (σ := sI s1 0 16 (qBe s.B)) (b := 4) (by omega) k1' e17 (fun z => OrC_f2 (k3' (z.resolve_right (by omega))) fr ⟨by decide, by decide⟩) (fun z => SqC_f2 (k4' (z.resolve_right (by omega))) fr fun x x1 x2 z => by simp at z; omega) (fun z => ?_) (fun z => ?_) (fun _ => ⟨a, b, eb, by rw [sI_at]; exact eb⟩)
    · have fr2 : Fr [0] s1 (sI (sI s1 0 16 (qBe s.B)) 0 17 ((sI s1 0 16 (qBe s.B)).1 0 17 ||| nI (2 ^ 4))) := fr.I (by simp)
      try dsimp only
      rw [sI_of _ _ (show ¬ (0 = 0 ∧ 16 = 17) by omega), sI_at]
      exact K _ (cC_tr cc (cC_fr fr2 fun x hx => by simp at hx; omega)) ⟨r, o, RB_fr hB1 fr2 rfl (fun x hx => by simp at hx; omega), kn2⟩
    · obtain ⟨g, g1, g2, g3⟩ := k5' (z.resolve_right (by omega))
      exact ⟨g, g1, by rw [sI_ne (by decide), sI_ne (by decide)]; exact g2, by rw [sI_ne (by decide)]; exact g3⟩
    · obtain ⟨x, y, w, g1, g2, g3, g4⟩ := k6' (z.resolve_right (by omega))
      exact ⟨x, y, w, g1, by rw [sI_ne (by decide)]; exact g2, g3, g4⟩
  · have e := qBe_no (B := s.B) (by omega)
    rw [e] at K; exact K σ cC_rfl h
theorem k235 (h : RR s σ) (ok : OkS s) (K : ∀ σ', CR σ σ' → RR s σ' → Q (some (.int (qBe s.B))) σ') : Cm Θ (d + 5) 235 [.ref 124] σ Q := by
  have hm := bm6 ok.2.1.1
  have hkB := ok.2.1.1
  refine K235 (B235_0 ?_)
  have row := loopS (α := Mem × Int32 × Rat) (I := fun a z => (QR σ z.1 ∧ RR s z.1) ∧ BsG s.B a (a + 1) z.2.1 z.2.2) (P := fun a z => G Θ (d + 5) 235 10 [some (.ref 124), some (.int z.2.1), some (.long (jJ z.2.2.num)), none, some (.long (jJ (z.2.2.den : Nat))), none, some (.int (nI a)), none] [] z.1 Q) (bM s.B) ?_ ?_ (σ, -1, 0) ⟨⟨qR_rfl, h⟩, BsG_0⟩
  · exact row
  · intro ⟨t, v, q⟩ ⟨⟨c1, c2⟩, c4⟩
    refine B235_10 ⟨fun _ => ?_, fun z => absurd (by rw [c2.2.1.1.1]; exact nI_le (Nat.le_refl _) (by omega)) z⟩
    rw [qBe_is c4]; exact K t c1.1 c2
  · intro a ⟨t, v, q⟩ ha ⟨⟨c1, c2⟩, c4⟩ ih
    refine B235_10 ⟨fun z => absurd z (by rw [c2.2.1.1.1]; exact nI_ge ha (by omega)), fun _ => ?_⟩
    rw [nI_1]
    have col := loopS (α := Mem × Int32 × Rat) (I := fun j z => (QR σ z.1 ∧ RR s z.1) ∧ BsG s.B a (a + 1 + j) z.2.1 z.2.2) (P := fun j z => G Θ (d + 5) 235 25 [some (.ref 124), some (.int z.2.1), some (.long (jJ z.2.2.num)), none, some (.long (jJ (z.2.2.den : Nat))), none, some (.int (nI a)), some (.int (nI (a + 1 + j)))] [] z.1 Q) (bM s.B - (a + 1)) ?_ ?_ (t, v, q) ⟨⟨c1, c2⟩, c4⟩
    · exact col
    · intro ⟨t, v, q⟩ ⟨⟨c1, c2⟩, c4⟩
      refine B235_25 ⟨fun _ => ?_, fun z => absurd (by rw [c2.2.1.1.1]; exact nI_le (by omega) (by omega)) z⟩
      rw [nI_1]
      refine ih (t, v, q) ⟨⟨c1, c2⟩, BsG_row ?_⟩
      have : a + 1 + (bM s.B - (a + 1)) = bM s.B := by omega
      rw [this] at c4; exact c4
    · intro j ⟨t, v, q⟩ hj ⟨⟨c1, c2⟩, c4⟩ ih2
      have c4 : BsG s.B a (a + 1 + j) v q := c4
      have hab : a < a + 1 + j := by omega
      have hbm : a + 1 + j < bM s.B := by omega
      refine B235_25 ⟨fun z => absurd z (by rw [c2.2.1.1.1]; exact nI_ge (by omega) (by omega)), fun _ => ?_⟩
      refine k197 (d := d + 3) c2 ok (by omega) (by omega) fun s1 q1 hR1 o1 => ⟨rfl, ?_⟩
      refine fitR (d := d) hR1 ok o1 (dOk s.B _ _) fun s2 p q2 hR2 ⟨pc, pd, pb, _, g1, g2⟩ => ?_
      rw [g1, g2, nI_1]
      have e : (10 : Int32) * nI a + nI (a + 1 + j) = nI (10 * a + (a + 1 + j)) := by
        rw [show (10 : Int32) = nI 10 from rfl, pk_mul, nI_add]
      rw [e]
      have qq := qR_tr c1 (qR_tr q1 q2)
      have put : (v = -1 ∨ p < q) → G Θ (d + 5) 235 25 [some (.ref 124), some (.int (nI (10 * a + (a + 1 + j)))), some (.long (jJ p.num)), none, some (.long (jJ (p.den : Nat))), none, some (.int (nI a)), some (.int (nI (a + 1 + j + 1)))] [] s2 Q := fun hlt =>
        ih2 (s2, nI (10 * a + (a + 1 + j)), p) ⟨⟨qq, hR2⟩, BsG_new hkB c4 hab hbm pc pd hlt⟩
      have cl := BsG_cl hkB c4
      refine ⟨fun z => put (Or.inl ?_), fun z => ?_⟩
      · rcases cl with w | ⟨x, y, -, -, -, w, -⟩
        · exact w.1
        · exact absurd z w
      · have c4' := c4
        have z : ¬ v < 0 := z
        rcases c4 with ⟨w1, w2⟩ | ⟨x, y, -, -, qd, q0, qb⟩
        · exact absurd (by rw [w1]; decide) z
        · have cx := (cross q0 pb.1 qd pd qb pb.2).1
          rw [lc_lt]
          refine ⟨fun y2 => put (Or.inr ?_), fun y2 => ih2 (s2, v, q) ⟨⟨qq, hR2⟩, BsG_old hkB c4' (by rcases cl with w | ⟨_, _, _, _, _, _, w⟩; exact absurd w.2 z; exact w) hab hbm pc ?_⟩⟩
          · have y2 : jJ p.num * jJ (q.den : Nat) < jJ q.num * jJ (p.den : Nat) := y2
            apply Rat.not_le.mp
            intro u
            have := cx.mpr u
            rw [Int64.lt_iff_toInt_lt] at y2
            rw [Int64.le_iff_toInt_le] at this
            omega
          · have y2 : ¬ jJ p.num * jJ (q.den : Nat) < jJ q.num * jJ (p.den : Nat) := y2
            apply cx.mp
            rw [Int64.lt_iff_toInt_lt] at y2
            rw [Int64.le_iff_toInt_le]
            omega
end ans4
