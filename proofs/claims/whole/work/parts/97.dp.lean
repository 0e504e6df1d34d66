/-! CONTRACTS: the class's runs: the best cuts -/
def sgR (a b : Rat) : Int := if a < b then -1 else if a = b then 0 else 1
theorem sgR_sg {a b : Rat} (ha : 0 ≤ a) (hb : 0 ≤ b) : sg (a.num.toNat * b.den) (b.num.toNat * a.den) = sgR a b := by
  have na : 0 ≤ a.num := Rat.num_nonneg.mpr ha
  have nb : 0 ≤ b.num := Rat.num_nonneg.mpr hb
  have e1 : ((a.num.toNat * b.den : Nat) : Int) = a.num * b.den := by rw [Int.natCast_mul, Int.toNat_of_nonneg na]
  have e2 : ((b.num.toNat * a.den : Nat) : Int) = b.num * a.den := by rw [Int.natCast_mul, Int.toNat_of_nonneg nb]
  have l1 : a < b ↔ a.num.toNat * b.den < b.num.toNat * a.den := by rw [Rat.lt_iff, ← e1, ← e2]; omega
  have l2 : b < a ↔ b.num.toNat * a.den < a.num.toNat * b.den := by rw [Rat.lt_iff, ← e1, ← e2]; omega
  unfold sg sgR
  by_cases h1 : a < b
  · rw [if_pos h1, if_pos (l1.mp h1)]
  · rw [if_neg h1, if_neg (fun z => h1 (l1.mpr z))]
    by_cases h2 : a = b
    · rw [if_pos h2, if_pos]
      have h3 : ¬ b < a := by rw [h2]; exact Rat.lt_irrefl
      have n1 := mt l1.mpr h1
      have n2 := mt l2.mpr h3
      exact Nat.le_antisymm (Nat.not_lt.mp n2) (Nat.not_lt.mp n1)
    · rw [if_neg h2, if_neg]
      have h3 : b < a := by grind
      have := l2.mp h3
      omega
section dp
variable {Θ : Th} {d : Nat} {σ : Mem} {Q : Po} {w g st : Nat → Nat} {T : Nat → Bool} {p : Nat} {q : Nat → Nat}
theorem rat_num {a : Rat} {M : Nat} (ha : 0 ≤ a) (hd : a.den ≤ M) (hb : a ≤ ((3686400 : Nat) : Rat)) : a.num = ((a.num.toNat : Nat) : Int) ∧ a.num.toNat ≤ 3686400 * M := by
  have h := num_b ha hb
  have e := Int.toNat_of_nonneg h.1
  refine ⟨e.symm, ?_⟩
  have h2 : ((a.num.toNat : Nat) : Int) ≤ ((3686400 * a.den : Nat) : Int) := by rw [e, Int.natCast_mul]; exact h.2
  have h3 : a.num.toNat ≤ 3686400 * a.den := by omega
  exact Nat.le_trans h3 (Nat.mul_le_mul_left _ hd)
theorem c51r {a b : Rat} (ha : 0 ≤ a) (hb : 0 ≤ b) (da : a.den ≤ 2300000) (db : b.den ≤ 2300000) (na : a ≤ ((3686400 : Nat) : Rat)) (nb : b ≤ ((3686400 : Nat) : Rat)) (k : Q (some (.int (iI (sgR a b)))) σ) : Cm Θ (d + 1) 51 [.long (jJ a.num), .long (jJ (a.den : Nat)), .long (jJ b.num), .long (jJ (b.den : Nat))] σ Q := by
  obtain ⟨e1, l1⟩ := rat_num ha da na
  obtain ⟨e2, l2⟩ := rat_num hb db nb
  rw [e1, e2]
  have hm : a.den * b.den ≤ 2300000 * 2300000 := Nat.mul_le_mul da db
  refine c51 a.den_pos b.den_pos (by omega) (by omega) (by omega) ?_
  rw [sgR_sg ha hb]; exact k
theorem pre_sums (hP : Pav w g T st q p) : ∀ j, j ≤ p → sN j (pW w T st q) = wT w (iv T st 0 (q j)) ∧ sN j (pS w g T st q) = gT w g (iv T st 0 (q j))
  | 0, _ => by
    have := wT_none (w := w) (g := g) (T := T) (κ := st) (a := 0) (b := q 0) (by rw [hP.1]; exact Nat.le_refl _)
    rw [this.1, this.2]; exact ⟨rfl, rfl⟩
  | j + 1, hj => by
    have ih := pre_sums hP j (by omega)
    have hl := Nat.le_of_lt (hP.2 j (by omega)).1
    rw [wT_iv (Nat.zero_le _) hl, gT_iv (Nat.zero_le _) hl, ← ih.1, ← ih.2]
    exact ⟨rfl, rfl⟩
/-- what the pools i .. j-1 are together -/
theorem seg (hP : Pav w g T st q p) {i j : Nat} (hij : i ≤ j) (hj : j ≤ p) : sN j (pW w T st q) - sN i (pW w T st q) = wT w (iv T st (q i) (q j)) ∧ sN j (pS w g T st q) - sN i (pS w g T st q) = gT w g (iv T st (q i) (q j)) := by
  have hl : q i ≤ q j := r_mono (fun t ht => (hP.2 t ht).1) hij hj
  have e1 := pre_sums hP i (by omega)
  have e2 := pre_sums hP j hj
  have e3 := wT_iv (w := w) (T := T) (κ := st) (Nat.zero_le (q i)) hl
  have e4 := gT_iv (w := w) (g := g) (T := T) (κ := st) (Nat.zero_le (q i)) hl
  omega
theorem gq_le (hP : Pav w g T st q p) (hR : PoR w g T st p q) {i j : Nat} (hij : i < j) (hj : j ≤ p) : 0 ≤ gq (pW w T st q) (pS w g T st q) i j ∧ gq (pW w T st q) (pS w g T st q) i j ≤ ((qT w g (iv T st (q i) (q j)) : Nat) : Rat) := by
  have hW := rise_W (rise_of hP hR) hij hj
  have hWp := Rat.natCast_pos.mpr hW
  have e := seg hP (Nat.le_of_lt hij) hj
  refine ⟨?_, ?_⟩
  · have := gn_max (S := sN j (pS w g T st q) - sN i (pS w g T st q)) hW 0
    have this : _ ≤ gq (pW w T st q) (pS w g T st q) i j := this
    grind
  · have e1 := gn_mul (S := sN j (pS w g T st q) - sN i (pS w g T st q)) hW
    refine Rat.le_of_mul_le_mul_right (c := ((sN j (pW w T st q) - sN i (pW w T st q) : Nat) : Rat)) ?_ hWp
    have e1 : gq (pW w T st q) (pS w g T st q) i j * _ = _ := e1
    rw [e1, e.1, e.2]
    rw [e.1] at hW
    have := cost_0 (w := w) (g := g) hW
    rw [← Rat.natCast_mul, ← Rat.natCast_mul]
    refine Rat.natCast_le_natCast.mpr ?_
    rw [← Int.natCast_mul, ← Int.natCast_mul] at this
    omega
/-- the parts of what cuts take off -/
theorem ct_den (hb : Bnd w g T) (hP : Pav w g T st q p) (hR : PoR w g T st p q) : ∀ k j γ β, j ≤ p → Ct q (gq (pW w T st q) (pS w g T st q)) k j γ β → ∃ L : List Nat, (∀ a, a ∈ L → 1 ≤ a ∧ a ≤ 64) ∧ sumL L = wT w (iv T st 0 (q j)) ∧ γ.den ∣ lcmL L ∧ 0 ≤ γ ∧ γ ≤ ((qT w g (iv T st 0 (q j)) : Nat) : Rat) := by
  have hin : ∀ a b, ∀ c, iv T st a b c = true → T c = true := fun a b c h => (iv_iff.mp h).1
  intro k
  induction k with
  | zero =>
    rintro j γ β hj ⟨h0, rfl, _⟩
    have hW := rise_W (rise_of hP hR) h0 hj
    have e := seg hP (Nat.zero_le j) hj
    have b := (hb (iv T st (q 0) (q j)) (hin _ _)).1
    have gl := gq_le hP hR h0 hj
    have hd := add_den (rr := 0) (u := (((sN j (pS w g T st q) - sN 0 (pS w g T st q)) * (sN j (pS w g T st q) - sN 0 (pS w g T st q)) : Nat) : Int)) (W := sN j (pW w T st q) - sN 0 (pW w T st q)) (L := []) hW (Nat.dvd_refl 1)
    rw [Rat.zero_add] at hd
    rw [hP.1] at e b gl
    refine ⟨[sN j (pW w T st q) - sN 0 (pW w T st q)], fun a ha => ?_, ?_, hd, gl.1, gl.2⟩
    · rw [List.mem_singleton] at ha; omega
    · show sN j (pW w T st q) - sN 0 (pW w T st q) + 0 = _
      rw [Nat.add_zero]; exact e.1
  | succ k ih =>
    rintro j γ β hj ⟨i, γ', β', h1, h2, h3, rfl, _⟩
    obtain ⟨L, l1, l2, l3, l4, l5⟩ := ih i γ' β' (by omega) h3
    have hW := rise_W (rise_of hP hR) h2 hj
    have e := seg hP (Nat.le_of_lt h2) hj
    have b := (hb (iv T st (q i) (q j)) (hin _ _)).1
    have gl := gq_le hP hR h2 hj
    have hl : q i ≤ q j := r_mono (fun t ht => (hP.2 t ht).1) (Nat.le_of_lt h2) hj
    have hd := add_den (rr := γ') (u := (((sN j (pS w g T st q) - sN i (pS w g T st q)) * (sN j (pS w g T st q) - sN i (pS w g T st q)) : Nat) : Int)) (W := sN j (pW w T st q) - sN i (pW w T st q)) (L := L) hW l3
    refine ⟨(sN j (pW w T st q) - sN i (pW w T st q)) :: L, fun a ha => ?_, ?_, hd, by grind, ?_⟩
    · rcases List.mem_cons.mp ha with rfl | ha
      · omega
      · exact l1 a ha
    · show sN j (pW w T st q) - sN i (pW w T st q) + sumL L = _
      rw [l2, wT_iv (Nat.zero_le _) hl, e.1]; omega
    · rw [qT_iv (Nat.zero_le _) hl, Rat.natCast_add]; grind
theorem ct_fit (hb : Bnd w g T) (hP : Pav w g T st q p) (hR : PoR w g T st p q) {k j β : Nat} {γ : Rat} (hj : j ≤ p) (h : Ct q (gq (pW w T st q) (pS w g T st q)) k j γ β) : γ.den ≤ 2300000 ∧ 0 ≤ γ ∧ γ ≤ ((3686400 : Nat) : Rat) := by
  obtain ⟨L, l1, l2, l3, l4, l5⟩ := ct_den hb hP hR k j γ β hj h
  have b := hb (iv T st 0 (q j)) (fun c h => (iv_iff.mp h).1)
  refine ⟨Nat.le_trans (Nat.le_of_dvd (lcm_pos _ fun a ha => (l1 a ha).1) l3) (lcm_64 l1 (by omega)), l4, ?_⟩
  have : ((qT w g (iv T st 0 (q j)) : Nat) : Rat) ≤ ((3686400 : Nat) : Rat) := Rat.natCast_le_natCast.mpr b.2.2
  grind
theorem c93 {r : Nat} {B : Bk} {lv : Nat} (hB : BkC r lv B σ) (hk : BkOk lv B) (k : Q (some (.long (jJ (qT (bW B) (bG B) (fun c => decide (c < bN B)) : Nat)))) σ) : Cm Θ d 93 [.ref r] σ Q := by
  obtain ⟨km, ⟨kn, klv⟩, ktp, -, kc, -⟩ := hk
  have hr1 := bk_s hB.1
  have hn := hB.2.2.1.1
  refine K93 (B93_0 hr1 ?_)
  have z0 : (0 : Int64) = jJ ((sN 0 (fun c => bW B c * bG B c * bG B c) : Nat) : Int) := rfl
  rw [z0]
  refine loopN (P := fun i => G Θ d 93 4 [some (.ref r), some (.long (jJ ((sN i (fun c => bW B c * bG B c * bG B c) : Nat) : Int))), none, some (.int (nI i))] [] σ Q) (bN B) ?_ ?_
  · refine B93_4 hr1 ⟨fun _ => ?_, fun h => absurd (by rw [hn]; exact nI_le (Nat.le_refl _) (by omega)) h⟩
    have e : qT (bW B) (bG B) (fun c => decide (c < bN B)) = sN (bN B) (fun c => bW B c * bG B c * bG B c) := by
      show sN 16 _ = _
      rw [sN_cut (n := bN B) (by omega) (fun c hc => if_neg (by rw [decide_eq_true_eq]; omega))]
      exact sN_congr _ fun c hc => if_pos (decide_eq_true hc)
    rw [e] at k; exact k
  · intro i hi ih
    have v := vp_in_nI (show i < 16 by omega) (by decide)
    refine B93_4 hr1 ⟨fun h => absurd h (by rw [hn]; exact nI_ge hi (by omega)), fun _ => ⟨v, v, v, ?_⟩⟩
    have c1 := kc i (by omega)
    have b3 : bW B i * bG B i ≤ 4 * 240 := Nat.mul_le_mul c1.2.2.2.2.1 c1.2.2.1
    have b4 : bW B i * bG B i * bG B i ≤ 4 * 240 * 240 := Nat.mul_le_mul b3 c1.2.2.1
    rw [nI_clamp (by omega), nI_1, hB.2.2.1.2.2.2.2.1 i (by omega), hB.2.2.1.2.2.2.1 i (by omega), pk_mul, pk_mul, nI_j (by omega), jJ_add]
    exact ih
theorem c99 {i j : Nat} {r : Rat} (hP : Pav w g T st q p) (hR : PoR w g T st p q) (hb : Bnd w g T) (hC : ∀ t, t < p → σ.1 116 t = nI (pW w T st q t) ∧ σ.1 117 t = nI (pS w g T st q t)) (hij : i < j) (hj : j ≤ p) (h12 : p ≤ 12)
    (hr : σ.2.1 122 0 = jJ r.num ∧ σ.2.1 122 1 = jJ (r.den : Nat)) {L : List Nat} (hL : ∀ a, a ∈ L → 1 ≤ a ∧ a ≤ 64) (hS : sumL L + wT w (iv T st (q i) (q j)) ≤ 64) (hden : r.den ∣ lcmL L) (h0 : 0 ≤ r) (h1 : r ≤ ((3686400 : Nat) : Rat))
    (K : Q none (frW σ 122 0 1 (r + gq (pW w T st q) (pS w g T st q) i j))) : Cm Θ (d + 3) 99 [.ref 114, .int (nI i), .int (nI j)] σ Q := by
  have e := seg hP (Nat.le_of_lt hij) hj
  have hW := rise_W (rise_of hP hR) hij hj
  have bb := hb (iv T st (q i) (q j)) (fun c h => (iv_iff.mp h).1)
  refine K99 (B99_0 ?_)
  have z0 : (0 : Int64) = jJ ((0 : Nat) : Int) := rfl
  have zS : (0 : Int64) = jJ ((sN (i + 0) (pS w g T st q) - sN i (pS w g T st q) : Nat) : Int) := by rw [Nat.add_zero, Nat.sub_self]; rfl
  have zW : (0 : Int64) = jJ ((sN (i + 0) (pW w T st q) - sN i (pW w T st q) : Nat) : Int) := by rw [Nat.add_zero, Nat.sub_self]; rfl
  have start := loopN (P := fun m => G Θ (d + 3) 99 8 [some (.ref 114), none, some (.int (nI j)), some (.long (jJ ((sN (i + m) (pS w g T st q) - sN i (pS w g T st q) : Nat) : Int))), none, some (.long (jJ ((sN (i + m) (pW w T st q) - sN i (pW w T st q) : Nat) : Int))), none, some (.int (nI (i + m)))] [] σ Q) (j - i) ?_ ?_
  · have s2 : G Θ (d + 3) 99 8 [some (.ref 114), none, some (.int (nI j)), some (.long (jJ ((sN (i + 0) (pS w g T st q) - sN i (pS w g T st q) : Nat) : Int))), none, some (.long (jJ ((sN (i + 0) (pW w T st q) - sN i (pW w T st q) : Nat) : Int))), none, some (.int (nI (i + 0)))] [] σ Q := start
    rw [← zS, ← zW] at s2
    exact s2
  · rw [show i + (j - i) = j by omega]
    refine B99_8 ⟨fun _ => ?_, fun h => absurd (nI_le (Nat.le_refl _) (by omega)) h⟩
    rw [jJ_mul, ← Int.natCast_mul]
    have b1 : (sN j (pS w g T st q) - sN i (pS w g T st q)) * (sN j (pS w g T st q) - sN i (pS w g T st q)) ≤ 15360 * 15360 := by rw [e.2]; exact Nat.mul_le_mul bb.2.1 bb.2.1
    have hMl : lcmL ((sN j (pW w T st q) - sN i (pW w T st q)) :: L) ≤ 2300000 := lcm_64 (fun a ha => by
      rcases List.mem_cons.mp ha with rfl | ha
      · omega
      · exact hL a ha) (by show sN j (pW w T st q) - sN i (pW w T st q) + sumL L ≤ 64; omega)
    obtain ⟨a1, a2, a3, a4⟩ := add_ok (u := (((sN j (pS w g T st q) - sN i (pS w g T st q)) * (sN j (pS w g T st q) - sN i (pS w g T st q)) : Nat) : Int)) hL hMl (Nat.le_refl _) ⟨hW, by omega⟩ hden h0 h1 (Int.natCast_nonneg _) (by omega)
    exact c48 rfl hr a1 hW a2 a3 a4 ⟨rfl, K⟩
  · intro m hm ih
    have v := vp_in_nI (show i + m < 13 by omega) (by decide)
    have w1 := pwb (st := st) hb q (i + m)
    refine B99_8 ⟨fun h => absurd h (nI_ge (show i + m < j by omega) (by omega)), fun _ => ⟨v, v, ?_⟩⟩
    obtain ⟨c1, c2⟩ := hC (i + m) (by omega)
    rw [nI_clamp (by omega), nI_1, c1, c2, nI_j (by omega), nI_j (by omega), jJ_add, jJ_add, ← Int.natCast_add, ← Int.natCast_add]
    have e1 : sN (i + m) (pS w g T st q) - sN i (pS w g T st q) + pS w g T st q (i + m) = sN (i + (m + 1)) (pS w g T st q) - sN i (pS w g T st q) := by
      have : sN (i + (m + 1)) (pS w g T st q) = sN (i + m) (pS w g T st q) + pS w g T st q (i + m) := rfl
      have := sN_mono (f := pS w g T st q) (show i ≤ i + m by omega)
      omega
    have e2 : sN (i + m) (pW w T st q) - sN i (pW w T st q) + pW w T st q (i + m) = sN (i + (m + 1)) (pW w T st q) - sN i (pW w T st q) := by
      have : sN (i + (m + 1)) (pW w T st q) = sN (i + m) (pW w T st q) + pW w T st q (i + m) := rfl
      have := sN_mono (f := pW w T st q) (show i ≤ i + m by omega)
      omega
    rw [e1, e2]; exact ih
theorem c98 {a : Nat} {x : Int32} (ha : a < 169) (K : Q none (sI (sL (sL σ 119 a (σ.2.1 122 0)) 120 a (σ.2.1 122 1)) 121 a x)) : Cm Θ d 98 [.ref 114, .int (nI a), .int x] σ Q := by
  have v := vp_in_nI (show a < 169 by omega) (by decide)
  refine K98 (B98_0 ⟨v, v, v, ?_⟩)
  rw [nI_clamp (by omega)]
  rw [show (sL σ 119 a (σ.2.1 122 0)).2.1 122 1 = σ.2.1 122 1 from sL_of _ _ (by omega)]
  exact K
/-- an entry: γ and β at place a -/
def Ent (a : Nat) (γ : Rat) (β : Nat) (σ : Mem) : Prop := σ.2.1 119 a = jJ γ.num ∧ σ.2.1 120 a = jJ (γ.den : Nat) ∧ σ.1 121 a = nI β
theorem ent_put {a : Nat} {γ : Rat} {β : Nat} (hr : σ.2.1 122 0 = jJ γ.num ∧ σ.2.1 122 1 = jJ (γ.den : Nat)) : Ent a γ β (sI (sL (sL σ 119 a (σ.2.1 122 0)) 120 a (σ.2.1 122 1)) 121 a (nI β)) :=
  ⟨by rw [sI_L, sL_of _ _ (by omega), sL_at]; exact hr.1, by rw [sI_L, sL_at]; exact hr.2, sI_at _ _ _ _⟩
theorem ent_keep {a b : Nat} {γ : Rat} {β : Nat} {x y : Int64} {z : Int32} (h : Ent b γ β σ) (hab : b ≠ a) : Ent b γ β (sI (sL (sL σ 119 a x) 120 a y) 121 a z) :=
  ⟨by rw [sI_L, sL_of _ _ (by omega), sL_of _ _ (by omega)]; exact h.1, by rw [sI_L, sL_of _ _ (by omega), sL_of _ _ (by omega)]; exact h.2.1, by rw [sI_of _ _ (by omega), sL_I, sL_I]; exact h.2.2⟩
theorem Ent_fr {a : Nat} {γ : Rat} {β : Nat} {σ σ' : Mem} {ls : List Nat} (h : Ent a γ β σ) (hf : Fr ls σ σ') (hl : 119 ∉ ls ∧ 120 ∉ ls ∧ 121 ∉ ls) : Ent a γ β σ' :=
  ⟨by rw [(hf 119 hl.1).2.1]; exact h.1, by rw [(hf 120 hl.2.1).2.1]; exact h.2.1, by rw [(hf 121 hl.2.2).1]; exact h.2.2⟩
def Dp (w g : Nat → Nat) (T : Nat → Bool) (st : Nat → Nat) (q : Nat → Nat) (k j : Nat) (σ : Mem) : Prop := ∃ γ β, Btq q (gq (pW w T st q) (pS w g T st q)) k j γ β ∧ Ent (13 * (k + 1) + j) γ β σ
theorem or_pow {β x : Nat} (h : β < 2 ^ x) : β ||| 2 ^ x = β + 2 ^ x := Nat.eq_of_testBit_eq fun s => by
  rw [tb_top h, Nat.testBit_or, Nat.testBit_two_pow]
  congr 1
  rw [decide_eq_decide]; omega
theorem c96 (hP : Pav w g T st q p) (hR : PoR w g T st p q) (hb : Bnd w g T) (hC : PoC w g T st p q σ) (h12 : p ≤ 12)
    (K : ∀ σ', Fr [119, 120, 121, 122] σ σ' → (∀ j, 1 ≤ j → j ≤ p → Dp w g T st q 0 j σ') → Q none σ') : Cm Θ (d + 4) 96 [.ref 114] σ Q := by
  refine K96 (B96_0 ?_)
  refine loopS (α := Mem) (I := fun i s => Fr [119, 120, 121, 122] σ s ∧ ∀ j, 1 ≤ j → j ≤ i → Dp w g T st q 0 j s) (P := fun i s => G Θ (d + 4) 96 2 [some (.ref 114), some (.int (nI (i + 1)))] [] s Q) p ?_ ?_ σ ⟨Fr.rfl, fun j h1 h2 => by omega⟩
  · intro s ⟨hf, hs⟩
    have hp : s.1 114 2 = nI p := by rw [(hf 114 (by simp)).1]; exact hC.1
    exact B96_2 ⟨fun _ => K s hf hs, fun h => absurd (by rw [hp]; exact nI_lt (Nat.lt_succ_self _) (by omega)) h⟩
  · intro i s hi ⟨hf, hs⟩ ih
    have hp : s.1 114 2 = nI p := by rw [(hf 114 (by simp)).1]; exact hC.1
    refine B96_2 ⟨fun h => absurd h (by rw [hp]; exact nI_nlt (by omega) (by omega)), fun _ => ?_⟩
    have z0 : (0 : Int64) = jJ 0 := rfl
    have z1 : (1 : Int64) = jJ ((1 : Nat) : Int) := rfl
    rw [z0, z1]
    refine c47 rfl (by decide) (by decide) (by decide) (by decide) ⟨rfl, ?_⟩
    have fw : Fr [119, 120, 121, 122] σ (frW s 122 0 1 (mkRat 0 1)) := (hf.L (by simp)).L (by simp)
    have fs : Fr [122] s (frW s 122 0 1 (mkRat 0 1)) := (Fr.rfl.L (by simp)).L (by simp)
    have g0 : (frW s 122 0 1 (mkRat 0 1)).2.1 122 0 = jJ (0 : Rat).num := by rw [frW, sL_of _ _ (by omega), sL_at]; rfl
    have g1 : (frW s 122 0 1 (mkRat 0 1)).2.1 122 1 = jJ (((0 : Rat).den : Nat) : Int) := by rw [frW, sL_at]; rfl
    generalize frW s 122 0 1 (mkRat 0 1) = s1 at fw fs g0 g1
    have zi : (0 : Int32) = nI 0 := rfl
    rw [zi]
    have bb := hb (iv T st (q 0) (q (i + 1))) (fun c h => (iv_iff.mp h).1)
    refine c99 (d := d) (r := 0) (L := []) hP hR hb (fun t ht => by rw [(fw 116 (by simp)).1, (fw 117 (by simp)).1]; exact ⟨(hC.2 t ht).1, (hC.2 t ht).2.1⟩) (by omega) (by omega) h12 ⟨g0, g1⟩ (fun _ h => by cases h) (by show 0 + _ ≤ 64; omega) (Nat.dvd_refl 1) Rat.le_refl Rat.natCast_nonneg ⟨rfl, ?_⟩
    rw [show (13 : Int32) = nI 13 from rfl, nI_add]
    refine c98 (by omega) ⟨rfl, ?_⟩
    rw [nI_1, Rat.zero_add]
    have h0 : (frW s1 122 0 1 (gq (pW w T st q) (pS w g T st q) 0 (i + 1))).2.1 122 0 = jJ (gq (pW w T st q) (pS w g T st q) 0 (i + 1)).num := by rw [frW, sL_of _ _ (by omega), sL_at]
    have h1 : (frW s1 122 0 1 (gq (pW w T st q) (pS w g T st q) 0 (i + 1))).2.1 122 1 = jJ ((gq (pW w T st q) (pS w g T st q) 0 (i + 1)).den : Nat) := by rw [frW, sL_at]
    have f2 : Fr [122] s (frW s1 122 0 1 (gq (pW w T st q) (pS w g T st q) 0 (i + 1))) := (fs.L (by simp)).L (by simp)
    generalize frW s1 122 0 1 (gq (pW w T st q) (pS w g T st q) 0 (i + 1)) = s2 at h0 h1 f2
    refine ih _ ⟨(((hf.tr (f2.mono (by simp))).L (by simp)).L (by simp)).I (by simp), fun j h1' h2 => ?_⟩
    rcases Nat.lt_or_ge j (i + 1) with z | z
    · obtain ⟨γ, β, e1, e2⟩ := hs j h1' (by omega)
      exact ⟨γ, β, e1, ent_keep (Ent_fr e2 f2 (by decide)) (by omega)⟩
    · have : j = i + 1 := by omega
      subst this
      refine ⟨_, 0, ⟨⟨h1', rfl, rfl⟩, ?_⟩, ent_put ⟨h0, h1⟩⟩
      rintro γ' β' ⟨_, rfl, rfl⟩
      exact ⟨Rat.le_refl, fun _ => Nat.le_refl _⟩
end dp
