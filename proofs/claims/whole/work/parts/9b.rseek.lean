/-! CONTRACTS: the reference's runs: the best choice of beginnings -/
theorem BkR_ft {lv : Nat} {B : Bk} {σ σ' : Mem} {ls : List Nat} (h : BkR lv B σ) (hf : Ft ls σ σ') (hl : ∀ x, 139 ≤ x → x ≤ 148 → x ∉ ls) : BkR lv B σ' := by
  obtain ⟨⟨a1, a2, a3, a4⟩, ⟨b1, b2, b3, b4, b5, b6⟩, c1, c2, c3⟩ := h
  have e0 := hf.2.1
  have e : ∀ x, 139 ≤ x → x ≤ 148 → σ'.1 x = σ.1 x ∧ σ'.2.1 x = σ.2.1 x := fun x h1 h2 => by
    have := hf.1 x (hl x h1 h2) (by omega); exact ⟨this.1, this.2.1⟩
  refine ⟨⟨by rw [e0]; exact a1, fun m hm => by rw [(e 148 (by omega) (by omega)).2]; exact a2 m hm, fun m hm => by rw [(e 139 (by omega) (by omega)).1]; exact a3 m hm, fun m hm => by rw [(e 147 (by omega) (by omega)).1]; exact a4 m hm⟩,
    ⟨by rw [e0]; exact b1, fun m hm => by rw [(e 141 (by omega) (by omega)).1]; exact b2 m hm, fun m hm => by rw [(e 142 (by omega) (by omega)).1]; exact b3 m hm, fun m hm => by rw [(e 143 (by omega) (by omega)).1]; exact b4 m hm, fun m hm => by rw [(e 144 (by omega) (by omega)).1]; exact b5 m hm, fun c m hc hm => by rw [(e 140 (by omega) (by omega)).1]; exact b6 c m hc hm⟩,
    by rw [e0]; exact c1, fun m hm => by rw [(e 145 (by omega) (by omega)).1]; exact c2 m hm, fun m hm => by rw [(e 146 (by omega) (by omega)).1]; exact c3 m hm⟩
theorem rcost_one {w g st : Nat → Nat} {T : Nat → Bool} {A : Nat} {r r' : Rat} (hw : ∀ c, c < 16 → T c = true → 0 < w c) (h : RCost w g T st A r) (h' : RCost w g T st A r') : r = r' := by
  obtain ⟨f, h1, h2⟩ := h
  obtain ⟨f', h1', h2'⟩ := h'
  have e := VI_one (fun c hc hT => Rat.natCast_pos.mpr (hw c hc hT)) h1 h1'
  rw [h2, h2']
  exact sT_congr fun c hc hT => by rw [e c hc hT]
/-- products of fractions for comparing them -/
theorem cross {a b : Rat} (ha : 0 ≤ a) (hb : 0 ≤ b) (da : a.den ≤ 2300000) (db : b.den ≤ 2300000) (na : a ≤ ((921600 : Nat) : Rat)) (nb : b ≤ ((921600 : Nat) : Rat)) :
    (jJ a.num * jJ (b.den : Nat) ≤ jJ b.num * jJ (a.den : Nat) ↔ a ≤ b) ∧ (jJ a.num * jJ (b.den : Nat) = jJ b.num * jJ (a.den : Nat) ↔ a = b) := by
  have h1 := num_b ha na
  have h2 := num_b hb nb
  have bd : ∀ x : Int, ∀ y z : Nat, 0 ≤ x → x ≤ 921600 * (y : Int) → y ≤ 2300000 → z ≤ 2300000 → 0 ≤ x * (z : Int) ∧ x * (z : Int) ≤ 921600 * 2300000 * 2300000 := fun x y z hx hy h3 h4 => by
    refine ⟨Int.mul_nonneg hx (Int.natCast_nonneg _), ?_⟩
    exact Int.mul_le_mul (c := (921600 * 2300000 : Int)) (d := (2300000 : Int)) (by omega) (by omega) (Int.natCast_nonneg _) (by decide)
  have b1 := bd a.num a.den b.den h1.1 h1.2 da db
  have b2 := bd b.num b.den a.den h2.1 h2.2 db da
  rw [jJ_mul, jJ_mul, jJ_le (by omega) (by omega) (by omega) (by omega), jJ_eq (by omega) (by omega) (by omega) (by omega), ← Rat.le_iff]
  refine ⟨Iff.rfl, ⟨fun h => ?_, fun h => by rw [h]⟩⟩
  exact Rat.le_antisymm (by rw [Rat.le_iff]; omega) (by rw [Rat.le_iff]; omega)
section rseek
variable {Θ : Th} {d : Nat} {σ : Mem} {Q : Po} {lv m : Nat} {B : Bk}
theorem c238 {most : Nat} (hB : BkR lv B σ) (hk : BkOk lv B) (hm : m < bM B) (h1 : 1 ≤ most) (h2 : most ≤ 12)
    (K : ∀ σ' v β, Ft [158, 159, 160] σ σ' → RunOpt (bW B) (bG B) (fun c => decide (c < bN B)) (fun c => bS B c m) (bTp B m) most v β → (σ'.2.1 124 44 = jJ v.num ∧ σ'.2.1 124 45 = jJ (v.den : Nat)) → Q (some (.int (nI β))) σ') :
    Cm Θ (d + 4) 238 [.ref 124, .int (nI m), .int (nI most)] σ Q := by
  obtain ⟨km, ⟨kn, klv⟩, ktp, -, kc, -⟩ := id hk
  have hw : ∀ c, c < 16 → decide (c < bN B) = true → 0 < bW B c := fun c _ hT => (kc c (by have := of_decide_eq_true hT; omega)).2.2.2.1
  obtain ⟨to, hto⟩ : ∃ to, to = bTp B m := ⟨_, rfl⟩
  rw [← hto] at K
  have hto11 : to ≤ 11 := by rw [hto]; exact (ktp m hm).2
  obtain ⟨RC, hRC⟩ : ∃ RC : Nat → Rat → Prop, RC = RCost (bW B) (bG B) (fun c => decide (c < bN B)) (fun c => bS B c m) := ⟨_, rfl⟩
  have rone : ∀ A r r', RC A r → RC A r' → r = r' := fun A r r' a b => by rw [hRC] at a b; exact rcost_one hw a b
  have p2 : 2 ^ (to + 1) = 2 * 2 ^ to := by rw [Nat.pow_succ]; omega
  have p12 : 2 ^ to ≤ 2 ^ 11 := Nat.pow_le_pow_right (by decide) hto11
  have pp := Nat.two_pow_pos to
  have vm := vp_in_nI (show m < 6 by omega) (by decide)
  have pmx : ∀ s, pc 16 s ≤ 16 := fun s => cN_max _ 16
  have ev : ∀ i : Nat, (2 * i).testBit 0 = false := fun i => by rw [Nat.testBit_zero]; simp
  -- what holds of the best so far
  let BST : Nat → Nat → Rat → Prop := fun i β v => β < 2 ^ (to + 1) ∧ β.testBit 0 = false ∧ pc 16 β + 1 ≤ most ∧ RC β v ∧ (v.den ≤ 2300000 ∧ 0 ≤ v ∧ v ≤ ((921600 : Nat) : Rat)) ∧ ∀ A r', A < 2 * i → A.testBit 0 = false → pc 16 A + 1 ≤ most → RC A r' → v ≤ r' ∧ (r' = v → pc 16 β < pc 16 A ∨ (pc 16 β = pc 16 A ∧ β ≤ A))
  have even : ∀ A i : Nat, A.testBit 0 = false → A < 2 * (i + 1) → ¬ A < 2 * i → A = 2 * i := fun A i h3 h4 h5 => by
    rw [Nat.testBit_zero] at h3
    have : A % 2 = 0 := by
      have := Nat.mod_two_eq_zero_or_one A
      rcases this with z | z
      · exact z
      · rw [z] at h3; cases h3
    omega
  have keep : ∀ i β v r, BST i β v → RC (2 * i) r → (v < r ∨ (v = r ∧ pc 16 β ≤ pc 16 (2 * i) ∧ β < 2 * i)) → BST (i + 1) β v := fun i β v r ⟨a1, a2, a3, a4, a5, a6⟩ hr hh => ⟨a1, a2, a3, a4, a5, fun A r' b1 b2 b3 b4 => by
    by_cases z : A < 2 * i
    · exact a6 A r' z b2 b3 b4
    · have := even A i b2 b1 z
      subst this
      have e := rone _ _ _ hr b4
      subst e
      rcases hh with hh | ⟨h3, h4, h5⟩
      · exact ⟨Rat.le_of_lt hh, fun e => by rw [e] at hh; exact absurd hh Rat.lt_irrefl⟩
      · exact ⟨by rw [h3]; exact Rat.le_refl, fun _ => by omega⟩⟩
  have skip : ∀ i β v, BST i β v → ¬ pc 16 (2 * i) + 1 ≤ most → BST (i + 1) β v := fun i β v ⟨a1, a2, a3, a4, a5, a6⟩ hn => ⟨a1, a2, a3, a4, a5, fun A r' b1 b2 b3 b4 => by
    by_cases z : A < 2 * i
    · exact a6 A r' z b2 b3 b4
    · have := even A i b2 b1 z
      subst this; exact absurd b3 hn⟩
  have newB : ∀ i r, 2 * i < 2 ^ (to + 1) → pc 16 (2 * i) + 1 ≤ most → RC (2 * i) r → (r.den ≤ 2300000 ∧ 0 ≤ r ∧ r ≤ ((921600 : Nat) : Rat)) → (i = 0 ∨ ∃ β v, BST i β v ∧ (r < v ∨ (r = v ∧ pc 16 (2 * i) < pc 16 β))) → BST (i + 1) (2 * i) r := fun i r b1 b2 b3 b4 hh => ⟨b1, ev i, b2, b3, b4, fun A r' c1 c2 c3 c4 => by
    by_cases z : A < 2 * i
    · rcases hh with hh | ⟨β, v, ⟨a1, a2, a3, a4, a5, a6⟩, hh⟩
      · omega
      · have := a6 A r' z c2 c3 c4
        rcases hh with hh | ⟨h3, h4⟩
        · exact ⟨by have := this.1; grind, fun e => by have := this.1; grind⟩
        · exact ⟨by rw [h3]; exact this.1, fun e => by have := this.2 (by rw [← h3]; exact e); omega⟩
    · have := even A i c2 c1 z
      subst this
      have e := rone _ _ _ b3 c4
      subst e
      exact ⟨Rat.le_refl, fun _ => Or.inr ⟨rfl, Nat.le_refl _⟩⟩⟩
  refine K238 (B238_0 ?_)
  have z0 : (0 : Int64) = jJ (0 : Rat).num := rfl
  have z1 : (1 : Int64) = jJ (((0 : Rat).den : Nat) : Int) := rfl
  rw [z0, z1]
  have keepB : ∀ s, Ft [158, 159, 160] σ s → BkR lv B s := fun s hs => BkR_ft hB hs (by intro x h1 h2; simp; omega)
  have start := loopS (α := Mem × Int × Rat) (I := fun i z => Ft [158, 159, 160] σ z.1 ∧ ((i = 0 ∧ z.2.1 = -1 ∧ z.2.2 = 0) ∨ ∃ β : Nat, z.2.1 = β ∧ 0 < i ∧ β < 2 * i ∧ BST i β z.2.2)) (P := fun i z => G Θ (d + 4) 238 11 [some (.ref 124), some (.int (nI m)), some (.int (nI most)), some (.int (iI z.2.1)), some (.long (jJ z.2.2.num)), none, some (.long (jJ (z.2.2.den : Nat))), none, some (.int (nI (2 * i))), none, none] [] z.1 Q) (2 ^ to) ?_ ?_ (σ, -1, 0) ⟨Ft.rfl, Or.inl ⟨rfl, rfl, rfl⟩⟩
  · exact start
  · intro ⟨s, b, v⟩ ⟨hf, hI⟩
    have hf : Ft [158, 159, 160] σ s := hf
    have hBs := keepB s hf
    have et := hBs.1.2.2.1 m hm
    rw [← hto] at et
    rcases hI with ⟨h3, -, -⟩ | ⟨β, h3, h4, h5, h6⟩
    · omega
    · have h3 : b = (β : Int) := h3
      have h6 : BST (2 ^ to) β v := h6
      subst h3
      show G Θ (d + 4) 238 11 [some (.ref 124), some (.int (nI m)), some (.int (nI most)), some (.int (iI (β : Int))), some (.long (jJ v.num)), none, some (.long (jJ (v.den : Nat))), none, some (.int (nI (2 * 2 ^ to))), none, none] [] s Q
      refine B238_11 ⟨vm, fun _ => ?_, fun h => absurd (by rw [nI_clamp (by omega), et, nI_1, pw_n (to + 1) (by omega), p2]; exact nI_le (Nat.le_refl _) (by omega)) h⟩
      obtain ⟨a1, a2, a3, a4, a5, a6⟩ := h6
      have a5 : v.den ≤ 2300000 ∧ 0 ≤ v ∧ v ≤ ((921600 : Nat) : Rat) := a5
      have a1 : β < 2 ^ (to + 1) := a1
      have a4 : RC β v := a4
      have nb := num_b a5.2.1 a5.2.2
      have := a5.1
      refine c211 (u := v.num) (l := v.den) (by omega) (by omega) v.den_pos (by omega) ⟨rfl, ?_⟩
      rw [Rat.mkRat_self, ← iI_nI]
      refine K _ v β (Ft.fw hf v) ⟨⟨a1, a2, a3⟩, by rw [hRC] at a4; exact a4, fun A r' c1 c2 c3 c4 => a6 A r' (by omega) c2 c3 (by rw [hRC]; exact c4)⟩ ⟨by rw [frW, sL_of _ _ (by omega), sL_at], by rw [frW, sL_at]⟩
  · intro i ⟨s, b, v⟩ hi ⟨hf, hI⟩ ih
    have hf : Ft [158, 159, 160] σ s := hf
    have hBs := keepB s hf
    have et := hBs.1.2.2.1 m hm
    rw [← hto] at et
    have si : 2 * i < 65536 := by omega
    have e145 : ∀ s' b' v', Ft [158, 159, 160] σ s' → (∃ β : Nat, b' = (β : Int) ∧ β < 2 * (i + 1) ∧ BST (i + 1) β v') → G Θ (d + 4) 238 145 [some (.ref 124), some (.int (nI m)), some (.int (nI most)), some (.int (iI b')), some (.long (jJ v'.num)), none, some (.long (jJ (v'.den : Nat))), none, some (.int (nI (2 * i))), none, none] [] s' Q := fun s' b' v' g1 ⟨β, g2, g3, g4⟩ => by
      refine B238_145 ?_
      rw [show nI (2 * i) + 2 = nI (2 * (i + 1)) by rw [show (2 : Int32) = nI 2 from rfl, nI_add]; rfl]
      exact ih (s', b', v') ⟨g1, Or.inr ⟨β, g2, Nat.succ_pos _, g3, g4⟩⟩
    show G Θ (d + 4) 238 11 [some (.ref 124), some (.int (nI m)), some (.int (nI most)), some (.int (iI b)), some (.long (jJ v.num)), none, some (.long (jJ (v.den : Nat))), none, some (.int (nI (2 * i))), none, none] [] s Q
    refine B238_11 ⟨vm, fun h => absurd h (by rw [nI_clamp (by omega), et, nI_1, pw_n (to + 1) (by omega), p2]; exact nI_ge (by omega) (by omega)), fun _ => ?_⟩
    refine ci (fun _ => c230 si) ?_
    have p1 := pmx (2 * i)
    show ((nI (pc 16 (2 * i)) + 1) ≤ nI most → _) ∧ (¬ (nI (pc 16 (2 * i)) + 1) ≤ nI most → _)
    rw [nI_1, nI_leI (by omega) (by omega)]
    refine ⟨fun hle => ?_, fun hgt => ?_⟩
    · refine c236 (d := d) hBs hk hm fun σ6 r f6 hr hbd hv6 => ⟨rfl, ?_⟩
      have f6' := hf.tr f6
      have hr' : RC (2 * i) r := by rw [hRC]; exact hr
      have put : (i = 0 ∨ ∃ β v, BST i β v ∧ (r < v ∨ (r = v ∧ pc 16 (2 * i) < pc 16 β))) → G Θ (d + 4) 238 130 [some (.ref 124), some (.int (nI m)), some (.int (nI most)), none, none, none, none, none, some (.int (nI (2 * i))), none, none] [] σ6 Q := fun hh => by
        refine B238_130 ?_
        rw [hv6.1, hv6.2]
        have := e145 σ6 ((2 * i : Nat) : Int) r f6' ⟨2 * i, rfl, by omega, newB i r (by omega) hle hr' hbd hh⟩
        rw [← iI_nI] at this; exact this
      rcases hI with ⟨h3, h4, h5⟩ | ⟨β, h3, h4, h5, h6⟩
      · have h4 : b = -1 := h4
        subst h4
        have neg : iI (-1) < 0 := by decide
        refine ⟨fun _ => ?_, fun h => absurd neg h⟩
        refine B238_69 ⟨fun _ => ?_, fun h => absurd neg h⟩
        exact B238_114 ⟨fun _ => put (Or.inl h3), fun h => absurd h (by decide)⟩
      · have h3 : b = (β : Int) := h3
        subst h3
        have h5 : β < 2 * i := h5
        have h6 : BST i β v := h6
        have hbv := h6.2.2.2.2.1
        have hnn : ¬ iI (β : Int) < 0 := by rw [← iI_nI]; exact nI_pos (by omega)
        obtain ⟨x1, x2⟩ := cross hbv.2.1 hbd.2.1 hbv.1 hbd.1 hbv.2.2 hbd.2.2
        have q1 := pmx β
        refine ⟨fun h => absurd h hnn, fun _ => ?_⟩
        rw [hv6.1, hv6.2, lc_ge, lc_eq]
        have keepG : (v < r ∨ (v = r ∧ pc 16 β ≤ pc 16 (2 * i) ∧ β < 2 * i)) → G Θ (d + 4) 238 114 [some (.ref 124), some (.int (nI m)), some (.int (nI most)), some (.int (iI (β : Int))), some (.long (jJ v.num)), none, some (.long (jJ (v.den : Nat))), none, some (.int (nI (2 * i))), some (.int 0), none] [] σ6 Q := fun hh => by
          refine B238_114 ⟨fun h => absurd rfl h, fun _ => ?_⟩
          exact e145 σ6 (β : Int) v f6' ⟨β, rfl, by omega, keep i β v r h6 hr' hh⟩
        refine ⟨fun h => ⟨fun h => absurd h hnn, fun _ => ⟨fun h7 => ?_, fun h7 => ?_⟩⟩, fun h => ?_⟩
        · have hle2 : v ≤ r := x1.mp h
          refine keepG (Or.inl ?_)
          have : ¬ v = r := fun e => h7 (x2.mpr e).symm
          grind
        · have heq : v = r := x2.mp h7.symm
          refine ci (fun _ => c230 si) ?_
          rw [← iI_nI]
          refine ci (fun _ => c230 (by omega)) ?_
          rw [nI_leI (by omega) (by omega)]
          refine ⟨fun h8 => ?_, fun h8 => put (Or.inr ⟨β, v, h6, Or.inr ⟨heq.symm, by omega⟩⟩)⟩
          have := keepG (Or.inr ⟨heq, h8, h5⟩)
          rw [← iI_nI] at this; exact this
        · have hlt : r < v := by
            have := mt x1.mpr h
            grind
          refine B238_69 ⟨fun h => absurd h hnn, fun _ => ?_⟩
          rw [hv6.1, hv6.2, lc_eq]
          refine ⟨fun _ => B238_114 ⟨fun _ => put (Or.inr ⟨β, v, h6, Or.inl hlt⟩), fun h => absurd h (by decide)⟩, fun h9 => ?_⟩
          have := x2.mp h9.symm
          rw [this] at hlt; exact absurd hlt Rat.lt_irrefl
    · rcases hI with ⟨h3, h4, h5⟩ | ⟨β, h3, h4, h5, h6⟩
      · exfalso
        have h3 : i = 0 := h3
        subst h3
        rw [show 2 * 0 = 0 from rfl, pc_0] at hgt; omega
      · have h3 : b = (β : Int) := h3
        subst h3
        have h5 : β < 2 * i := h5
        exact e145 s (β : Int) v hf ⟨β, rfl, by omega, skip i β v h6 hgt⟩
end rseek
