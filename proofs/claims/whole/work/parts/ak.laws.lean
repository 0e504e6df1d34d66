/-! THE CALLS: lawOf, moved, laws -/
noncomputable def qLf (B : Bk) (S : Lw) (x : Int32) : Int32 := if dP (isN x (bN B)) = true then iI (lnE B S x.toNatClampNeg) else -1
def mvC (B : Bk) (S : Lw) (c : Nat) : Nat := if 0 ≤ lnE B S c then dsG (bG B c) (S.lo (lnE B S c).toNat) (S.hi (lnE B S c).toNat) else 0
def mvS (B : Bk) (S : Lw) : Nat → Nat × Nat × Nat × Int
  | 0 => (0, 0, 0, -1)
  | n + 1 => ((mvS B S n).1 + (if 0 < mvC B S n then 1 else 0), (mvS B S n).2.1 + mvC B S n, if (mvS B S n).2.2.1 < mvC B S n then (mvC B S n, (n : Int)) else ((mvS B S n).2.2.1, (mvS B S n).2.2.2))
def qMv (B : Bk) (S : Lw) (x : Int32) : Int32 := if x = 0 then nI (mvS B S (bN B)).1 else if x = 1 then nI (mvS B S (bN B)).2.1 else if x = 2 then iI (mvS B S (bN B)).2.2.2 else -1
theorem ln_b {B : Bk} {S : Lw} {c : Nat} : -1 ≤ lnE B S c ∧ lnE B S c < S.k := fsT_b S.k
theorem mvC_b {B : Bk} {lv : Nat} {S : Lw} {c : Nat} (hk : BkOk lv B) (hS : LwOk (bM B) S) (hc : c < bN B) : mvC B S c ≤ 240 := by
  unfold mvC
  split
  · rename_i h
    have hb := (ln_b (B := B) (S := S) (c := c)).2
    have h1 := hS.2.2 (lnE B S c).toNat (by omega)
    exact dsG_b (wP hk (decide_eq_true hc)).2.2 (by omega)
  · omega
theorem mvS_b {B : Bk} {lv : Nat} {S : Lw} (hk : BkOk lv B) (hS : LwOk (bM B) S) : ∀ n, n ≤ bN B → (mvS B S n).1 ≤ n ∧ (mvS B S n).2.1 ≤ 240 * n ∧ (mvS B S n).2.2.1 ≤ 240
  | 0, _ => ⟨Nat.le_refl _, Nat.le_refl _, Nat.zero_le _⟩
  | n + 1, h => by
    obtain ⟨h1, h2, h3⟩ := mvS_b hk hS n (by omega)
    have h4 := mvC_b hk hS (show n < bN B by omega)
    refine ⟨?_, ?_, ?_⟩
    · show (mvS B S n).1 + (if 0 < mvC B S n then 1 else 0) ≤ n + 1
      split <;> omega
    · show (mvS B S n).2.1 + mvC B S n ≤ 240 * (n + 1)
      omega
    · show (if (mvS B S n).2.2.1 < mvC B S n then (mvC B S n, (n : Int)) else ((mvS B S n).2.2.1, (mvS B S n).2.2.2)).1 ≤ 240
      split <;> assumption
section ans8
variable {Θ : Th} {d : Nat} {σ : Mem} {Q : Po} {s : St}
theorem RB_P {r o : Nat} {σ' : Mem} (h : RB s r o σ) (kn : Kn s.B σ) (f : FrP o σ σ') : CC σ σ' ∧ RB s r o σ' ∧ Kn s.B σ' := by
  obtain ⟨h0, h1, ⟨h2, h3⟩, h4, h5, h6, h7⟩ := h
  have hr12 : r = 12 ∨ r = 22 := h2.1
  have ho : o = 32 ∨ o = 39 := h4.1
  have fr := f.1
  refine ⟨cC_fr fr fun x hx => by simp at hx; omega, ⟨by rw [f.2.2]; exact h0, TC_fr h1 fr (by simp; omega) (by simp; omega), ⟨BkC_f2 h2 fr fun x x1 x2 q => by simp at q; omega, NwC_fr h3 fr fun q => by simp at q; omega⟩, ?_, AcC_fr h5 fr fun x x1 x2 q => by simp at q; omega, XC_fr h6 fr fun x x1 x2 q => by simp at q; omega, ?_⟩, Kn_fr kn fr ?_ ?_ fun x hx => by simp at hx; omega⟩
  · exact ⟨h4.1, by rw [f.2.1 2 (by decide)]; exact h4.2.1, h4.2.2.imp id fun q => LwC_P q f⟩
  · rw [(fr 113 (by simp; omega)).1]; exact h7
  · rw [(fr 0 (by simp; omega)).1]; exact ⟨rfl, rfl⟩
  · rw [(fr 110 (by simp; omega)).1]; exact ⟨rfl, rfl, rfl⟩
theorem k61 {r o c : Nat} (hB : RB s r o σ) (kn : Kn s.B σ) (ok : OkS s) (hc : c < bN s.B) (K : ∀ σ', CC σ σ' → RB s r o σ' → Kn s.B σ' → Q (some (.int (iI (lnE s.B s.S c)))) σ') : Cm Θ (d + 4) 61 [.ref o, .ref r, .int (nI c)] σ Q := by
  have hkB := ok.2.1.1
  obtain ⟨ho, h2, h3⟩ := hB.2.2.2.1
  rcases h3 with h3 | h3
  · refine K61 (B61_0 (o_s ho) (bk_s hB.2.2.1.1.1) (B61_5 (o_s ho) (bk_s hB.2.2.1.1.1) ⟨fun _ => ?_, fun q => absurd (by rw [h2, h3]; decide) q⟩))
    have e : lnE s.B s.S c = -1 := by unfold lnE; rw [h3]; rfl
    rw [e] at K
    exact K σ cC_rfl hB kn
  · refine c61 (d := d) h3 ok.2.2.1 hB.2.2.1.1 hkB (by have := hkB.2.1; omega) fun s1 f1 => ?_
    obtain ⟨a, b, c'⟩ := RB_P hB kn f1
    exact K s1 a b c'
theorem rB_o {r o : Nat} (h : RB s r o σ) : σ.2.2 0 4 = o ∧ o ≠ 0 ∧ (shq o).1 = 6 ∧ (o = 32 ∨ o = 39) := by
  have ho := h.2.2.2.1.1
  exact ⟨h.1.2.2.2, by omega, o_s ho, ho⟩
theorem k141 {x1 : Int32} (h : RC s σ) (ok : OkS s) (K : ∀ σ', CC σ σ' → RC s σ' → Q (some (.int (qLf s.B s.S x1))) σ') : Cm Θ (d + 5) 141 [.ref 0, .int x1] σ Q := by
  obtain ⟨r, o, hB, kn⟩ := id h
  obtain ⟨r1, r2, r3, r4⟩ := rB_r hB
  obtain ⟨o1, o2, o3, o4⟩ := rB_o hB
  have h16 := bk16 ok
  have hn := hB.2.2.1.1.2.2.1.1
  unfold qLf at K
  refine K141 (B141_0 ?_)
  rw [r1]
  refine ⟨r2, r3, c12' r3 hn (by omega) ⟨_, rfl, fun z => ?_, fun z => ?_⟩⟩
  · rw [b01_0] at z; rw [z] at K; exact K σ cC_rfl h
  · rw [b01_n] at z
    obtain ⟨a, ha, e1⟩ := isN_ex (dP_iff.mp z) (by omega)
    rw [if_pos z, e1, nI_clamp (by omega)] at K
    rw [r1, o1, e1]
    exact ⟨o2, o3, r2, r3, k61 (d := d) hB kn ok ha fun s1 cc hB1 kn1 => ⟨_, rfl, K s1 cc ⟨r, o, hB1, kn1⟩⟩⟩
theorem k267 {c : Nat} (h : RR s σ) (ok : OkS s) (hc : c < bN s.B) (K : ∀ σ', QR σ σ' → RR s σ' → Q (some (.int (iI (lnE s.B s.S c)))) σ') : Cm Θ (d + 2) 267 [.ref 124, .int (nI c)] σ Q := by
  have hkB := ok.2.1.1
  refine c267 (d := d) h.2.2.2.1 ok.2.2.1 h.2.1 hkB (by have := hkB.2.1; omega) fun s1 f1 => ?_
  have q := qR_fr f1 fun x hx => by simp at hx; omega
  exact K s1 q (RR_Q h q.2)
theorem k268 {x1 : Int32} (h : RR s σ) (ok : OkS s) (K : ∀ σ', CR σ σ' → RR s σ' → Q (some (.int (qLf s.B s.S x1))) σ') : Cm Θ (d + 3) 268 [.ref 124, .int x1] σ Q := by
  have h16 := bk16 ok
  unfold qLf at K
  refine K268 (B268_0 (c200 h.2.1.2.1.1 (by omega) ⟨_, rfl, fun z => ?_, fun z => ?_⟩))
  · rw [b01_0] at z; rw [z] at K; exact K σ cR_rfl h
  · rw [b01_n] at z
    obtain ⟨a, ha, e1⟩ := isN_ex (dP_iff.mp z) (by omega)
    rw [if_pos z, e1, nI_clamp (by omega)] at K
    rw [e1]
    exact k267 (d := d) h ok ha fun s1 q hR1 => ⟨_, rfl, K s1 q.1 hR1⟩
theorem k166 {r o c : Nat} (hB : RB s r o σ) (kn : Kn s.B σ) (ok : OkS s) (hc : c < bN s.B) (K : ∀ σ', CC σ σ' → RB s r o σ' → Kn s.B σ' → Q (some (.int (nI (mvC s.B s.S c)))) σ') : Cm Θ (d + 5) 166 [.ref 0, .int (nI c)] σ Q := by
  obtain ⟨r1, r2, r3, r4⟩ := rB_r hB
  obtain ⟨o1, o2, o3, o4⟩ := rB_o hB
  have h16 := bk16 ok
  have hkB := ok.2.1.1
  have hlv : bN s.B ≤ s.lv := by have := hkB.2.1; omega
  refine K166 (B166_0 ?_)
  rw [r1, o1]
  refine ⟨o2, o3, r2, r3, k61 (d := d) hB kn ok hc fun s1 cc hB1 kn1 => ⟨_, rfl, fun z => ?_, fun z => ?_⟩⟩
  · obtain ⟨t1, t2, t3, t4⟩ := rB_r hB1
    obtain ⟨u1, u2, u3, u4⟩ := rB_o hB1
    have lb := ln_b (B := s.B) (S := s.S) (c := c)
    have k8 := ok.2.2.1.1.1
    have z : (0 : Int) ≤ lnE s.B s.S c := by rw [i_le, iI_toInt (by omega) (by omega)] at z; exact z
    have fin := K s1 cc hB1 kn1
    unfold mvC at fin
    rw [if_pos z] at fin
    obtain ⟨l, hl⟩ : ∃ l : Nat, lnE s.B s.S c = l := ⟨_, (Int.toNat_of_nonneg z).symm⟩
    rw [hl, Int.toNat_natCast] at fin
    try dsimp only
    rw [hl, show iI ((l : Nat) : Int) = nI l from (iI_nI l).symm, t1, u1]
    have hL := hB1.2.2.2.1.2.2.resolve_left (by omega)
    have hl' : l < s.S.k := by omega
    have hS := ok.2.2.1.2.2 l hl'
    have hg := (wP hkB (B := s.B) (c := c) (decide_eq_true hc)).2.2
    rw [nI_clamp (by omega), nI_clamp (by omega), hB1.2.2.1.1.2.2.1.2.2.2.1 c (by omega), (hL.2.2 l hl').1, (hL.2.2 l hl').2.1]
    refine ⟨t2, t3, vp_in_nI (by omega) (by decide), u2, u3, vp_in_nI (by omega) (by decide), u2, u3, vp_in_nI (by omega) (by decide), c165 (by omega) (by omega) (by omega) ⟨_, rfl, fin⟩⟩
  · have lb := ln_b (B := s.B) (S := s.S) (c := c)
    have k8 := ok.2.2.1.1.1
    have z : ¬ (0 : Int) ≤ lnE s.B s.S c := by rw [i_le, iI_toInt (by omega) (by omega)] at z; exact z
    have fin := K s1 cc hB1 kn1
    unfold mvC at fin
    rw [if_neg z] at fin
    exact fin
theorem k269 {c : Nat} (h : RR s σ) (ok : OkS s) (hc : c < bN s.B) (K : ∀ σ', QR σ σ' → RR s σ' → Q (some (.int (nI (mvC s.B s.S c)))) σ') : Cm Θ (d + 3) 269 [.ref 124, .int (nI c)] σ Q := by
  have h16 := bk16 ok
  have hkB := ok.2.1.1
  have hlv : bN s.B ≤ s.lv := by have := hkB.2.1; omega
  refine K269 (B269_0 (k267 (d := d) h ok hc fun s1 q hR1 => ⟨_, rfl, fun z => ?_, fun z => ?_⟩))
  · have lb := ln_b (B := s.B) (S := s.S) (c := c)
    have k8 := ok.2.2.1.1.1
    have z : (0 : Int) ≤ lnE s.B s.S c := by rw [i_le, iI_toInt (by omega) (by omega)] at z; exact z
    have fin := K s1 q hR1
    unfold mvC at fin
    rw [if_pos z] at fin
    obtain ⟨l, hl⟩ : ∃ l : Nat, lnE s.B s.S c = l := ⟨_, (Int.toNat_of_nonneg z).symm⟩
    rw [hl, Int.toNat_natCast] at fin
    try dsimp only
    have hl' : l < s.S.k := by omega
    have hS := ok.2.2.1.2.2 l hl'
    have hg := (wP hkB (B := s.B) (c := c) (decide_eq_true hc)).2.2
    have hF := (hR1.2.2.2.1.2.2 l hl').2
    have v1 := vp_in_nI (show c < 16 by omega) (by decide)
    have v2 := vp_in_nI (show l < 8 by omega) (by decide)
    have i_le' : ∀ x y : Nat, x < 1000000 → y < 1000000 → (nI x ≤ nI y ↔ x ≤ y) := fun x y hx hy => by rw [i_le, nI_int (by omega), nI_int (by omega)]; omega
    rw [hl, show iI ((l : Nat) : Int) = nI l from (iI_nI l).symm, nI_clamp (by omega), nI_clamp (by omega), hR1.2.1.2.1.2.2.2.1 c (by omega), hF.1, hF.2, i_le' _ _ (by omega) (by omega), i_le' _ _ (by omega) (by omega)]
    refine ⟨v1, v2, fun w => ⟨v1, v2, fun w2 => ?_, fun w2 => ⟨v1, v2, ?_⟩⟩, fun w => ⟨v2, v1, ?_⟩⟩
    · have e0 : dsG (bG s.B c) (s.S.lo l) (s.S.hi l) = 0 := by unfold dsG; rw [if_neg (by omega), if_neg (by omega)]
      rw [e0] at fin; exact fin
    · have e0 : dsG (bG s.B c) (s.S.lo l) (s.S.hi l) = bG s.B c - s.S.hi l := by unfold dsG; rw [if_neg (by omega), if_pos (by omega)]
      rw [e0] at fin; rw [pk_sub (by omega)]; exact fin
    · have e0 : dsG (bG s.B c) (s.S.lo l) (s.S.hi l) = s.S.lo l - bG s.B c := by unfold dsG; rw [if_pos (by omega)]
      rw [e0] at fin; rw [pk_sub (by omega)]; exact fin
  · have lb := ln_b (B := s.B) (S := s.S) (c := c)
    have k8 := ok.2.2.1.1.1
    have z : ¬ (0 : Int) ≤ lnE s.B s.S c := by rw [i_le, iI_toInt (by omega) (by omega)] at z; exact z
    have fin := K s1 q hR1
    unfold mvC at fin
    rw [if_neg z] at fin
    exact fin
theorem mv_le {a b : Nat} (ha : a < 1000000) (hb : b < 1000000) : (nI a ≤ nI b ↔ a ≤ b) ∧ (nI a < nI b ↔ a < b) ∧ (nI a ≤ 0 ↔ a = 0) := by
  refine ⟨by rw [i_le, nI_int (by omega), nI_int (by omega)]; omega, by rw [i_lt, nI_int (by omega), nI_int (by omega)]; omega, ?_⟩
  rw [i_le, nI_int (by omega)]
  show ((a : Nat) : Int) ≤ 0 ↔ _
  omega
theorem mvS_s {B : Bk} {S : Lw} {n : Nat} : (mvS B S (n + 1)).1 = (mvS B S n).1 + (if 0 < mvC B S n then 1 else 0) ∧ (mvS B S (n + 1)).2.1 = (mvS B S n).2.1 + mvC B S n ∧ (mvS B S (n + 1)).2.2 = if (mvS B S n).2.2.1 < mvC B S n then (mvC B S n, (n : Int)) else ((mvS B S n).2.2.1, (mvS B S n).2.2.2) := ⟨rfl, rfl, rfl⟩
theorem k142 {x1 : Int32} (h : RC s σ) (ok : OkS s) (K : ∀ σ', CC σ σ' → RC s σ' → Q (some (.int (qMv s.B s.S x1))) σ') : Cm Θ (d + 6) 142 [.ref 0, .int x1] σ Q := by
  obtain ⟨r, o, hB, kn⟩ := id h
  have h16 := bk16 ok
  have hkB := ok.2.1.1
  obtain ⟨t0, t1, t2⟩ := x012 (x := x1)
  refine K142 (B142_0 ?_)
  refine loopS (α := Mem) (I := fun _ t => CC σ t ∧ RB s r o t ∧ Kn s.B t) (P := fun i t => G Θ (d + 6) 142 13 [some (.ref 0), some (.int x1), some (.int (nI (mvS s.B s.S i).1)), some (.int (nI (mvS s.B s.S i).2.1)), some (.int (nI (mvS s.B s.S i).2.2.1)), some (.int (iI (mvS s.B s.S i).2.2.2)), some (.int (nI i)), none] [] t Q) (bN s.B) ?_ ?_ σ ⟨cC_rfl, hB, kn⟩
  · intro t ⟨c1, c2, c3⟩
    obtain ⟨r1, r2, r3, r4⟩ := rB_r c2
    have hn := c2.2.2.1.1.2.2.1.1
    have fin := K t c1 ⟨r, o, c2, c3⟩
    unfold qMv at fin
    refine B142_13 ?_
    rw [r1, hn]
    refine ⟨r2, r3, fun _ => ⟨fun z => ?_, fun z => ?_, fun z => ?_, fun z => ?_⟩, fun q => absurd (nI_le (Nat.le_refl _) (by omega)) q⟩
    · rw [if_neg (fun q => by have := t0.mpr q; omega), if_neg (fun q => by have := t1.mpr q; omega), if_neg (fun q => by have := t2.mpr q; omega)] at fin; exact fin
    · rw [if_pos (t0.mp z)] at fin; exact fin
    · rw [if_neg (fun q => by have := t0.mpr q; omega), if_pos (t1.mp z)] at fin; exact fin
    · rw [if_neg (fun q => by have := t0.mpr q; omega), if_neg (fun q => by have := t1.mpr q; omega), if_pos (t2.mp z)] at fin; exact fin
  · intro i t hi ⟨c1, c2, c3⟩ ih
    obtain ⟨r1, r2, r3, r4⟩ := rB_r c2
    have hn := c2.2.2.1.1.2.2.1.1
    have mb := mvC_b hkB ok.2.2.1 hi
    obtain ⟨m1, m2, m3⟩ := mvS_b hkB ok.2.2.1 i (by omega)
    obtain ⟨p1, p2, p3⟩ := mvS_s (B := s.B) (S := s.S) (n := i)
    refine B142_13 ?_
    rw [r1, hn, nI_1]
    refine ⟨r2, r3, fun q => absurd q (nI_ge hi (by omega)), fun _ => k166 (d := d) c2 c3 ok hi fun s1 cc hB1 kn1 => ⟨_, rfl, ?_⟩⟩
    have ih := ih s1 ⟨cC_tr c1 cc, hB1, kn1⟩
    rw [p1, p2, p3] at ih
    obtain ⟨l1, l2, l3⟩ := mv_le (a := mvC s.B s.S i) (b := (mvS s.B s.S i).2.2.1) (by omega) (by omega)
    try dsimp only
    rw [l1, l3, nI_add, nI_1, show ∀ x : Int32, x + 0 = x from Int32.add_zero]
    refine ⟨fun q => ⟨fun w => ?_, fun w => by omega⟩, fun q => ⟨fun w => ?_, fun w => ?_⟩⟩
    · rw [if_neg (by omega), if_neg (by omega), Nat.add_zero] at ih; exact ih
    · rw [if_pos (by omega), if_neg (by omega)] at ih; exact ih
    · rw [if_pos (by omega), if_pos (by omega)] at ih; exact ih
theorem k270 {x1 : Int32} (h : RR s σ) (ok : OkS s) (K : ∀ σ', CR σ σ' → RR s σ' → Q (some (.int (qMv s.B s.S x1))) σ') : Cm Θ (d + 4) 270 [.ref 124, .int x1] σ Q := by
  have h16 := bk16 ok
  have hkB := ok.2.1.1
  refine K270 (B270_0 ?_)
  refine loopS (α := Mem) (I := fun _ t => QR σ t ∧ RR s t) (P := fun i t => G Θ (d + 4) 270 13 [some (.ref 124), some (.int x1), some (.int (nI (mvS s.B s.S i).1)), some (.int (nI (mvS s.B s.S i).2.1)), some (.int (iI (mvS s.B s.S i).2.2.2)), some (.int (nI (mvS s.B s.S i).2.2.1)), some (.int (nI i)), none] [] t Q) (bN s.B) ?_ ?_ σ ⟨qR_rfl, h⟩
  · intro t ⟨c1, c2⟩
    have fin := K t c1.1 c2
    unfold qMv at fin
    refine B270_13 ?_
    rw [c2.2.1.2.1.1]
    refine ⟨fun _ => ⟨fun z => ⟨fun y => ⟨fun w => ?_, fun w => ?_⟩, fun y => ?_⟩, fun z => ?_⟩, fun q => absurd (nI_le (Nat.le_refl _) (by omega)) q⟩
    · rw [if_neg z, if_neg y, if_neg w] at fin; exact fin
    · rw [if_neg z, if_neg y, if_pos w] at fin; exact fin
    · rw [if_neg z, if_pos y] at fin; exact fin
    · rw [if_pos z] at fin; exact fin
  · intro i t hi ⟨c1, c2⟩ ih
    have mb := mvC_b hkB ok.2.2.1 hi
    obtain ⟨m1, m2, m3⟩ := mvS_b hkB ok.2.2.1 i (by omega)
    obtain ⟨p1, p2, p3⟩ := mvS_s (B := s.B) (S := s.S) (n := i)
    refine B270_13 ?_
    rw [c2.2.1.2.1.1, nI_1]
    refine ⟨fun q => absurd q (nI_ge hi (by omega)), fun _ => k269 (d := d) c2 ok hi fun s1 q1 hR1 => ⟨_, rfl, ?_⟩⟩
    have ih := ih s1 ⟨qR_tr c1 q1, hR1⟩
    rw [p1, p2, p3] at ih
    obtain ⟨l1, l2, l3⟩ := mv_le (a := mvC s.B s.S i) (b := (mvS s.B s.S i).2.2.1) (by omega) (by omega)
    obtain ⟨-, l2', -⟩ := mv_le (a := (mvS s.B s.S i).2.2.1) (b := mvC s.B s.S i) (by omega) (by omega)
    try dsimp only
    rw [l2', l3, nI_add, nI_1, show ∀ x : Int32, x + 0 = x from Int32.add_zero]
    refine ⟨fun q => ⟨fun w => by omega, fun w => ?_⟩, fun q => ⟨fun w => ?_, fun w => ?_⟩⟩
    · rw [if_neg (by omega), if_neg (by omega), Nat.add_zero] at ih; exact ih
    · rw [if_pos (by omega), if_pos (by omega)] at ih; exact ih
    · rw [if_pos (by omega), if_neg (by omega)] at ih; exact ih
/-! laws() -/
def stL (s : St) (f p : Int32) (S : Lw) : St := ((s.b, 0, f, p), s.2.1, S, s.2.2.2)
noncomputable def lwR (s : St) : Except Fa Lw := rLs (tok s.b s.n true) (bM s.B) s.nm 502 emL 0
noncomputable def stW (s : St) : St := if s.n ≤ 500 then (match lwR s with | .error e => stL s (nI e.1) (nI e.2) s.S | .ok S => stL s 0 (-1) S) else s
noncomputable def qLwz (s : St) : Int32 := if s.n ≤ 500 then (match lwR s with | .error _ => -1 | .ok S => nI S.k) else -2
theorem k120 (h : RC s σ) (ok : OkS s) (K : ∀ σ', CC σ σ' → OkS (stW s) → RC (stW s) σ' → Q (some (.int (qLwz s))) σ') : Cm Θ (d + 103) 120 [.ref 0] σ Q := by
  obtain ⟨r, o, hB, kn⟩ := id h
  obtain ⟨r1, r2, r3, r4⟩ := rB_r hB
  obtain ⟨o1, o2, o3, o4⟩ := rB_o hB
  have hT := hB.2.1.1
  have hn13 := ok.1.2
  have hm := bm6 ok.2.1.1
  obtain ⟨ho, h2, h3⟩ := hB.2.2.2.1
  refine K120 (B120_0 ?_)
  rw [hT.1, show (500 : Int32) = nI 500 from rfl]
  obtain ⟨q, hq, e5, q2, q3, hq4⟩ : ∃ q, (q = 32 ∨ q = 39) ∧ σ.2.2 0 5 = q ∧ q ≠ 0 ∧ (shq q).1 = 6 ∧ ((o = 32 ∧ q = 39) ∨ (o = 39 ∧ q = 32)) := by
    rcases hB.1.2.2.1 with ⟨a, b⟩ | ⟨a, b⟩
    · exact ⟨39, Or.inr rfl, b, by decide, rfl, Or.inl ⟨a, rfl⟩⟩
    · exact ⟨32, Or.inl rfl, b, by decide, rfl, Or.inr ⟨a, rfl⟩⟩
  refine ⟨fun hle => ?_, fun hgt => ?_⟩
  · have hn : s.n ≤ 500 := by rw [(mv_le (by omega) (by omega)).1] at hle; exact hle
    have eW : stW s = match lwR s with | .error e => stL s (nI e.1) (nI e.2) s.S | .ok S => stL s 0 (-1) S := if_pos hn
    have eQ : qLwz s = match lwR s with | .error _ => -1 | .ok S => nI S.k := if_pos hn
    rw [eW, eQ] at K
    rw [r1, e5]
    have hM : MkC r (bM s.B) s.nm σ := ⟨r4, hB.2.2.1.1.2.1.1, hm, fun i hi => by
      have a1 := hB.2.2.1.1.2.1.2.1 i hi
      have a2 := (ok.2.1.2.2.1.1 i hi)
      exact ⟨by rw [a1]; exact a2.1, a2.2⟩⟩
    have fin : ∀ (s1 : Mem) (f p : Int32) (S : Lw) (o' q' : Nat) (σ2 : Mem), Fr (lsO q) σ s1 → LwOk (bM s.B) S → ((o' = 32 ∧ q' = 39) ∨ (o' = 39 ∧ q' = 32)) → σ2.1 = (sI s1 1 0 0).1 → σ2.2.1 = s1.2.1 → (∀ l, l ≠ 0 → σ2.2.2 l = s1.2.2 l) → (∀ y, y ≠ 4 → y ≠ 5 → σ2.2.2 0 y = s1.2.2 0 y) → σ2.2.2 0 4 = o' → σ2.2.2 0 5 = q' → s1.1 1 1 = f → s1.1 1 2 = p → LwS o' S s1 → CC σ σ2 ∧ OkS (stL s f p S) ∧ RC (stL s f p S) σ2 := by
      intro s1 f p S o' q' σ2 fr hS hoq e1 e2 e3 e4 e6 e7 hf hp hL
      have hl : ∀ x, x ∈ lsO q → x = 1 ∨ (3 ≤ x ∧ x ≤ 5) ∨ (q ≤ x ∧ x ≤ q + 5) := fun x hx => by simp [lsO] at hx; omega
      have fr2 : ∀ x, x ∉ lsO q → x ≠ 0 → x ≠ 1 → σ2.1 x = σ.1 x ∧ σ2.2.1 x = σ.2.1 x ∧ σ2.2.2 x = σ.2.2 x := fun x hx h0 h1 => by
        rw [e1, e2, e3 x h0, sI_ne (by omega)]; exact fr x hx
      have F2 : Fr (0 :: lsO q) σ σ2 := fun x hx => by
        have a1 : x ≠ 0 := fun w => hx (w ▸ List.mem_cons_self)
        have a2 : x ∉ lsO q := fun w => hx (List.mem_cons_of_mem _ w)
        have a3 : x ≠ 1 := fun w => a2 (by rw [w]; simp [lsO])
        exact fr2 x a2 a1 a3
      have hl2 : ∀ x, x ∈ (0 :: lsO q) → x = 0 ∨ x = 1 ∨ (3 ≤ x ∧ x ≤ 5) ∨ (q ≤ x ∧ x ≤ q + 5) := fun x hx => by
        rcases List.mem_cons.mp hx with w | w
        · exact Or.inl w
        · exact Or.inr (hl x w)
      have e01 : σ2.1 0 = σ.1 0 := by rw [e1, sI_ne (by decide)]; exact (fr 0 (by simp [lsO]; omega)).1
      have fs := fr 0 (by simp [lsO]; omega)
      refine ⟨cC_fr F2 fun x hx => by have := hl2 x hx; omega, ⟨⟨ok.1.1, Nat.zero_le _⟩, ok.2.1, hS, ok.2.2.2⟩, r, o', ⟨⟨?_, ?_, ?_, e6⟩, ⟨⟨?_, fun i hi => absurd hi (Nat.not_lt_zero _)⟩, ?_, ?_⟩, ⟨BkC_f2 hB.2.2.1.1 F2 fun x x1 x2 w => by have := hl2 x w; omega, NwC_fr hB.2.2.1.2 F2 fun w => by have := hl2 _ w; omega⟩, ?_, AcC_fr hB.2.2.2.2.1 F2 fun x x1 x2 w => by have := hl2 x w; omega, XC_fr hB.2.2.2.2.2.1 F2 fun x x1 x2 w => by have := hl2 x w; omega, ?_⟩, Kn_fr kn F2 (by rw [e01]; exact ⟨rfl, rfl⟩) ?_ fun x hx => by have := hl2 x hx; omega⟩
      · rw [e4 3 (by decide) (by decide), fs.2.2]; exact hB.1.1
      · rw [e4 2 (by decide) (by decide), fs.2.2]; exact r1
      · rcases hoq with ⟨a, b⟩ | ⟨a, b⟩
        · exact Or.inl ⟨a, by rw [e7, b]⟩
        · exact Or.inr ⟨a, by rw [e7, b]⟩
      · rw [e1]; exact sI_at _ _ _ _
      · rw [e1, sI_of _ _ (by omega)]; exact hf
      · rw [e1, sI_of _ _ (by omega)]; exact hp
      · have e8 : ∀ x, o' ≤ x → x ≤ o' + 5 → σ2.1 x = s1.1 x := fun x x1 x2 => by rw [e1, sI_ne (by omega)]
        obtain ⟨a1, a2, a3⟩ := hL
        refine ⟨a1, by rw [e8 o' (by omega) (by omega)]; exact a2, a3.imp id fun w => ?_⟩
        obtain ⟨⟨b1, ⟨b2, b3⟩, b4⟩, b5, b6⟩ := w
        refine ⟨⟨b1, ⟨by rw [e8 o' (by omega) (by omega)]; exact b2, by rw [e8 o' (by omega) (by omega)]; exact b3⟩, rwC_fr (e8 _ (by omega) (by omega)) (e8 _ (by omega) (by omega)) b4⟩, by rw [e8 o' (by omega) (by omega)]; exact b5, fun i hi => ?_⟩
        rw [e8 (o' + 1) (by omega) (by omega), e8 (o' + 2) (by omega) (by omega), e8 (o' + 3) (by omega) (by omega)]; exact b6 i hi
      · rw [(F2 113 (fun w => by have := hl2 _ w; omega)).1]; exact hB.2.2.2.2.2.2
      · rw [(F2 110 (fun w => by have := hl2 _ w; omega)).1]; exact ⟨rfl, rfl, rfl⟩
    refine ⟨q2, q3, r2, r3, c52 (e := d) (mk := bM s.B) (nm := s.nm) hn ok.1.1 hm hq hT hM (fun x s1 hx fr hf => ⟨_, rfl, fun z => absurd rfl z, fun _ => ?_⟩) (fun S s1 hx hS fr hL hf => ⟨_, rfl, fun _ => ?_, fun z => absurd z (by decide)⟩)⟩
    · have ex : lwR s = .error x := hx
      rw [ex] at K
      obtain ⟨a, b, c⟩ := fin s1 (nI x.1) (nI x.2) s.S o q (sI s1 1 0 0) fr ok.2.2.1 hq4 rfl rfl (fun _ _ => rfl) (fun _ _ _ => rfl) (by rw [sI_R, (fr 0 (by simp [lsO]; omega)).2.2]; exact o1) (by rw [sI_R, (fr 0 (by simp [lsO]; omega)).2.2]; exact e5) hf.1 hf.2 (LwS_fr ⟨ho, h2, h3⟩ fr fun x x1 x2 w => by simp [lsO] at w; omega)
      exact K _ a b c
    · have ex : lwR s = .ok S := hx
      rw [ex] at K
      have e4' : (sI s1 1 0 0).2.2 0 4 = o := by rw [sI_R, (fr 0 (by simp [lsO]; omega)).2.2]; exact o1
      have e5' : (sI s1 1 0 0).2.2 0 5 = q := by rw [sI_R, (fr 0 (by simp [lsO]; omega)).2.2]; exact e5
      try dsimp only
      rw [e4', e5']
      have e6 : (sR (sR (sI s1 1 0 0) 0 4 q) 0 5 o).2.2 0 4 = q := by rw [sR_of _ _ (by omega), sR_at]
      rw [e6]
      refine ⟨o2, o3, q2, q3, q2, o2, q2, q3, ?_⟩
      obtain ⟨a, b, c⟩ := fin s1 0 (-1) S q o (sR (sR (sI s1 1 0 0) 0 4 q) 0 5 o) fr hS (by omega) rfl rfl (fun l hl => by rw [sR_ne hl, sR_ne hl]; rfl) (fun y h4 h5 => by rw [sR_of _ _ (by omega), sR_of _ _ (by omega)]; rfl) e6 (sR_at _ _ _ _) hf.1 hf.2 ⟨hq, hL.2.1, Or.inr hL⟩
      have := K _ a b c
      have e7 : (sR (sR (sI s1 1 0 0) 0 4 q) 0 5 o).1 q 2 = nI S.k := by
        show (sI s1 1 0 0).1 q 2 = _
        rw [sI_ne (by omega)]; exact hL.2.1
      rw [e7]; exact this
  · have hn : ¬ s.n ≤ 500 := fun w => hgt (by rw [(mv_le (by omega) (by omega)).1]; exact w)
    have eW : stW s = s := if_neg hn
    have eQ : qLwz s = -2 := if_neg hn
    rw [eW, eQ] at K
    exact K σ cC_rfl ok h
theorem k263 (h : RR s σ) (ok : OkS s) (K : ∀ σ', CR σ σ' → RR (stW s) σ' → Q (some (.int (qLwz s))) σ') : Cm Θ (d + 5) 263 [.ref 124] σ Q := by
  have hm := bm6 ok.2.1.1
  by_cases hn : s.n ≤ 500
  · have eW : stW s = match lwR s with | .error e => stL s (nI e.1) (nI e.2) s.S | .ok S => stL s 0 (-1) S := if_pos hn
    have eQ : qLwz s = match lwR s with | .error _ => -1 | .ok S => nI S.k := if_pos hn
    rw [eW, eQ] at K
    have hM : MkR (bM s.B) s.nm σ := ⟨h.2.1.1.1, hm, fun i hi => by
      have a1 := h.2.1.1.2.1 i hi
      have a2 := ok.2.1.2.2.1.1 i hi
      exact ⟨by rw [a1]; exact a2.1, a2.2⟩, fun i k hi hk e => ok.2.1.2.2.1.2 i k hi hk e⟩
    have hl : ∀ x, x ∈ lsT → x = 124 ∨ (161 ≤ x ∧ x ≤ 171) := fun x hx => by simp [lsT, lsS] at hx; omega
    have fin : ∀ (s1 : Mem) (f p : Int32) (S : Lw), FrU σ s1 → s1.1 124 2 = f → s1.1 124 3 = p → LwF S s1 → CR σ s1 ∧ RR (stL s f p S) s1 := by
      intro s1 f p S fu hf hp hL
      obtain ⟨fr, f11, -, f1⟩ := fu
      have e : ∀ x, x ≠ 124 → (x < 161 ∨ 171 < x) → s1.1 x = σ.1 x ∧ s1.2.1 x = σ.2.1 x := fun x h1 h2 => by
        have := fr x (fun w => by have := hl x w; omega)
        exact ⟨this.1, this.2.1⟩
      obtain ⟨-, bk, nw, -, ac, xc⟩ := h
      refine ⟨cR_fr fr fun x hx => by have := hl x hx; omega, ⟨⟨by rw [f1]; rfl, fun i hi => absurd hi (Nat.not_lt_zero _)⟩, hf, hp⟩, BkR_eq (fun j a b => e j (by omega) (by omega)) (f11 37 (by decide) (by decide) (by decide) (by decide) (by decide) (by decide) (by decide)) (f11 38 (by decide) (by decide) (by decide) (by decide) (by decide) (by decide) (by decide)) (f11 39 (by decide) (by decide) (by decide) (by decide) (by decide) (by decide) (by decide)) bk, by rw [(e 173 (by decide) (by decide)).1]; exact nw, hL, AcR_eq (f11 78 (by decide) (by decide) (by decide) (by decide) (by decide) (by decide) (by decide)) (f11 79 (by decide) (by decide) (by decide) (by decide) (by decide) (by decide) (by decide)) (e 174 (by decide) (by decide)).1 (e 175 (by decide) (by decide)).1 (e 176 (by decide) (by decide)).1 ac, XR_eq (fun j a b => (e j (by omega) (by omega)).1) xc⟩
    refine c263 (d := d) hn ok.1.1 hm h.1.1.1 h.1.1.2 hM (fun x s1 hx fu e70 e1 e2 e3 e4 e5 hf => ?_) (fun S s1 hx hS fu hf hL => ?_)
    · have ex : lwR s = .error x := hx
      rw [ex] at K
      obtain ⟨a, b⟩ := fin s1 (nI x.1) (nI x.2) s.S fu hf.1.1 hf.1.2 (LwF_eq (fun j a b => by rcases (show j = 166 ∨ j = 167 ∨ j = 168 ∨ j = 169 ∨ j = 170 by omega) with w | w | w | w | w <;> (rw [w]; assumption)) e70 h.2.2.2.1)
      exact K _ a b
    · have ex : lwR s = .ok S := hx
      rw [ex] at K
      obtain ⟨a, b⟩ := fin s1 0 (-1) S fu hf.1 hf.2 hL
      exact K _ a b
  · have eW : stW s = s := if_neg hn
    have eQ : qLwz s = -2 := if_neg hn
    rw [eW, eQ] at K
    exact c263n (d := d + 4) h.1.1.1 (by omega) ok.1.2 (K σ cR_rfl h)
end ans8
