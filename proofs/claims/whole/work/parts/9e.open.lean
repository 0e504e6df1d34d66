/-! CONTRACTS: the class opens the tape and passes on -/
def TpC (b : Nat → Nat) (n : Nat) (σ : Mem) : Prop := σ.1 1 0 = nI n ∧ ∀ i, i < n → σ.1 2 i = iI (sgb (b i))
theorem sub_nI {a c : Nat} : nI (a + c) - nI a = nI c := by
  rw [iI_nI, iI_nI, iI_nI, iI_sub]; congr 1; omega
section opn
variable {Θ : Th} {d : Nat} {σ : Mem} {Q : Po} {b : Nat → Nat} {n : Nat} {law : Bool}
theorem inL_b {i : Nat} (h : i < n) : inL b n i = isL (b i) := by unfold inL; rw [decide_eq_true h]; rfl
theorem inD_b {i : Nat} (h : i < n) : inD b n i = isD (b i) := by unfold inD; rw [decide_eq_true h]; rfl
theorem c107 {p t e : Nat} (hn : n ≤ 1300) (hb : ∀ i, b i < 256) (hT : TpC b n σ) (ht : σ.1 1 10 = nI t) (hl : t ≤ 1300) (h1 : p ≤ e) (h2 : e ≤ n) (h3 : ∀ k, p ≤ k → k < e → inL b n k = true) (h4 : inL b n e = false)
    (K : ∀ x, (e - p ≤ 8 → x = jJ ((wv b p (e - p) : Nat) : Int)) → Q (some (.int (nI e))) (nt σ t (if e - p ≤ 8 then 1 else 4) (nI p) x)) : Cm Θ (d + 1) 107 [.ref 1, .int (nI p)] σ Q := by
  have ex : ∀ x, (e - p ≤ 8 → x = jJ ((wv b p (e - p) : Nat) : Int)) → ((nI e - nI p ≤ 8 → Cv Θ d 103 [.ref 1, .int 1, .int (nI p), .long x] σ (fun σ3 => Q (some (.int (nI e))) σ3)) ∧ (¬ nI e - nI p ≤ 8 → Cv Θ d 103 [.ref 1, .int 4, .int (nI p), .long x] σ (fun σ4 => Q (some (.int (nI e))) σ4))) := fun x hx => by
    have hs : nI e - nI p = nI (e - p) := by have := sub_nI (a := p) (c := e - p); rwa [show p + (e - p) = e by omega] at this
    have k := K x hx
    rw [hs]
    have l : nI (e - p) ≤ 8 ↔ e - p ≤ 8 := nI_leI (b := 8) (by omega) (by omega)
    rw [l]
    refine ⟨fun h => ?_, fun h => ?_⟩
    · rw [if_pos h] at k
      exact c103 ht hl ⟨rfl, k⟩
    · rw [if_neg h] at k
      exact c103 ht hl ⟨rfl, k⟩
  refine K107 (B107_0 ?_)
  have start := loopS (α := Int64) (I := fun k x => k ≤ 8 → x = jJ ((wv b p k : Nat) : Int)) (P := fun k x => G Θ (d + 1) 107 5 [some (.ref 1), some (.int (nI p)), some (.long x), none, some (.int (nI (p + k)))] [] σ Q) (e - p) ?_ ?_ 0 (fun _ => rfl)
  · exact start
  · intro x hx
    show G Θ (d + 1) 107 5 [some (.ref 1), some (.int (nI p)), some (.long x), none, some (.int (nI (p + (e - p))))] [] σ Q
    rw [show p + (e - p) = e by omega]
    refine B107_5 ⟨fun _ => ex x hx, fun h => ?_⟩
    rw [hT.1] at h
    have hlt : e < n := by
      rcases Nat.lt_or_ge e n with q | q
      · exact q
      · exact absurd (nI_le q (by omega)) h
    have hv : isL (b e) = false := by rw [← inL_b hlt]; exact h4
    refine ⟨vp_in_nI (by omega) (by decide), ?_⟩
    rw [nI_clamp (by omega), hT.2 e hlt]
    refine ci (fun _ => c105 (hb e)) ?_
    rw [hv]
    exact ⟨fun _ => ex x hx, fun h => absurd (by decide) h⟩
  · intro i x hi hx ih
    show G Θ (d + 1) 107 5 [some (.ref 1), some (.int (nI p)), some (.long x), none, some (.int (nI (p + i)))] [] σ Q
    have hlt : p + i < n := by omega
    have hv : isL (b (p + i)) = true := by rw [← inL_b hlt]; exact h3 _ (by omega) (by omega)
    refine B107_5 ⟨fun h => ?_, fun _ => ⟨vp_in_nI (by omega) (by decide), ?_⟩⟩
    · rw [hT.1] at h; exact absurd h (nI_ge hlt (by omega))
    · rw [nI_clamp (by omega), hT.2 _ hlt]
      refine ci (fun _ => c105 (hb _)) ?_
      rw [hv]
      refine ⟨fun h => absurd h (by decide), fun _ => ⟨vp_in_nI (by omega) (by decide), ?_⟩⟩
      rw [hT.2 _ hlt, nI_1]
      refine ih _ fun h8 => ?_
      have hx := hx (by omega)
      have hlv : b (p + i) < 128 := by unfold isL at hv; rw [Bool.and_eq_true, decide_eq_true_eq, decide_eq_true_eq] at hv; omega
      have w := wv_lt hb p (i + 1)
      have w8 : 256 ^ (i + 1) ≤ 256 ^ 8 := Nat.pow_le_pow_right (by decide) h8
      rw [hx, sgb_lo hlv, iI_l (by omega) (by omega)]
      exact shl8 (Nat.lt_of_lt_of_le w w8) (hb _)
theorem nv_step {p i : Nat} (h : isD (b (p + i)) = true) : jJ ((nv b p i : Nat) : Int) * 10 + jJ ((b (p + i) : Nat) : Int) - 48 = jJ ((nv b p (i + 1) : Nat) : Int) := by
  unfold isD at h; rw [Bool.and_eq_true, decide_eq_true_eq, decide_eq_true_eq] at h
  show jJ ((nv b p i : Nat) : Int) * jJ 10 + jJ ((b (p + i) : Nat) : Int) - jJ 48 = jJ ((nv b p i * 10 + (b (p + i) - 48) : Nat) : Int)
  rw [jJ_mul, jJ_add, jJ_sub]
  congr 1
  omega
theorem c108 {p t e : Nat} (hn : n ≤ 1300) (hb : ∀ i, b i < 256) (hT : TpC b n σ) (ht : σ.1 1 10 = nI t) (hl : t ≤ 1300) (h1 : p ≤ e) (h2 : e ≤ n) (h3 : ∀ k, p ≤ k → k < e → inD b n k = true) (h4 : inD b n e = false)
    (K : Q (some (.int (nI e))) (nt σ t (if e - p ≤ 4 ∧ inL b n e = false then 2 else 4) (nI p) (jJ ((nv b p (e - p) : Nat) : Int)))) : Cm Θ (d + 1) 108 [.ref 1, .int (nI p)] σ Q := by
  have hs : nI e - nI p = nI (e - p) := by have := sub_nI (a := p) (c := e - p); rwa [show p + (e - p) = e by omega] at this
  have l : (4 : Int32) < nI (e - p) ↔ 4 < e - p := nI_ltI (a := 4) (by omega) (by omega)
  obtain ⟨x, hx⟩ : ∃ x, x = jJ ((nv b p (e - p) : Nat) : Int) := ⟨_, rfl⟩
  rw [← hx] at K
  have e78 : inL b n e = false → G Θ (d + 1) 108 78 [some (.ref 1), some (.int (nI p)), some (.long x), none, some (.int (nI e)), none] [] σ Q := fun h => by
    refine B108_78 ?_
    rw [hs, l]
    refine ⟨fun q => ?_, fun q => ?_⟩
    · rw [if_neg (by omega)] at K; exact c103 ht hl ⟨rfl, K⟩
    · rw [if_pos ⟨by omega, h⟩] at K; exact c103 ht hl ⟨rfl, K⟩
  have e52 : G Θ (d + 1) 108 52 [some (.ref 1), some (.int (nI p)), some (.long x), none, some (.int (nI e)), none] [] σ Q := by
    refine B108_52 ⟨fun h => e78 ?_, fun h => ?_⟩
    · rw [hT.1] at h
      rcases Nat.lt_or_ge e n with q | q
      · exact absurd h (nI_ge q (by omega))
      · exact Bool.eq_false_iff.mpr fun z => by have := inL_lt z; omega
    · rw [hT.1] at h
      have hlt : e < n := by
        rcases Nat.lt_or_ge e n with q | q
        · exact q
        · exact absurd (nI_le q (by omega)) h
      refine ⟨vp_in_nI (by omega) (by decide), ?_⟩
      rw [nI_clamp (by omega), hT.2 e hlt]
      refine ci (fun _ => c105 (hb e)) ?_
      cases hv : isL (b e)
      · exact ⟨fun _ => e78 (by rw [inL_b hlt]; exact hv), fun h => absurd (by decide) h⟩
      · rw [if_neg (by rw [inL_b hlt, hv]; simp)] at K
        exact ⟨fun h => absurd h (by decide), fun _ => ⟨fun _ => c103 ht hl ⟨rfl, K⟩, fun _ => c103 ht hl ⟨rfl, K⟩⟩⟩
  refine K108 (B108_0 ?_)
  have start := loopN (P := fun k => G Θ (d + 1) 108 5 [some (.ref 1), some (.int (nI p)), some (.long (jJ ((nv b p k : Nat) : Int))), none, some (.int (nI (p + k))), none] [] σ Q) (e - p) ?_ ?_
  · exact start
  · show G Θ (d + 1) 108 5 [some (.ref 1), some (.int (nI p)), some (.long (jJ ((nv b p (e - p) : Nat) : Int))), none, some (.int (nI (p + (e - p)))), none] [] σ Q
    rw [show p + (e - p) = e by omega, ← hx]
    refine B108_5 ⟨fun _ => e52, fun h => ?_⟩
    rw [hT.1] at h
    have hlt : e < n := by
      rcases Nat.lt_or_ge e n with q | q
      · exact q
      · exact absurd (nI_le q (by omega)) h
    have hv : isD (b e) = false := by rw [← inD_b hlt]; exact h4
    refine ⟨vp_in_nI (by omega) (by decide), ?_⟩
    rw [nI_clamp (by omega), hT.2 e hlt]
    refine ci (fun _ => c106 (hb e)) ?_
    rw [hv]
    exact ⟨fun _ => e52, fun h => absurd (by decide) h⟩
  · intro i hi ih
    show G Θ (d + 1) 108 5 [some (.ref 1), some (.int (nI p)), some (.long (jJ ((nv b p i : Nat) : Int))), none, some (.int (nI (p + i))), none] [] σ Q
    have hlt : p + i < n := by omega
    have hv : isD (b (p + i)) = true := by rw [← inD_b hlt]; exact h3 _ (by omega) (by omega)
    refine B108_5 ⟨fun h => ?_, fun _ => ⟨vp_in_nI (by omega) (by decide), ?_⟩⟩
    · rw [hT.1] at h; exact absurd h (nI_ge hlt (by omega))
    · rw [nI_clamp (by omega), hT.2 _ hlt]
      refine ci (fun _ => c106 (hb _)) ?_
      rw [hv]
      refine ⟨fun h => absurd h (by decide), fun _ => ⟨vp_in_nI (by omega) (by decide), ?_⟩⟩
      have hlv : b (p + i) < 128 := by unfold isD at hv; rw [Bool.and_eq_true, decide_eq_true_eq, decide_eq_true_eq] at hv; omega
      rw [hT.2 _ hlt, nI_1, sgb_lo hlv, iI_l (by omega) (by omega), nv_step hv]
      exact ih
theorem c104 {p t : Nat} (hn : n ≤ 1300) (hb : ∀ i, b i < 256) (hT : TpC b n σ) (ht : σ.1 1 10 = nI t) (hl : t ≤ 1300) (hp : p < n)
    (K : ∀ x, ((tkA b n law p).1.1 ≠ 4 → x = jJ (((tkA b n law p).1.2.2 : Nat) : Int)) → Q (some (.int (nI (tkA b n law p).2))) (nt σ t (nI (tkA b n law p).1.1) (nI p) x)) : Cm Θ (d + 4) 104 [.ref 1, .int (nI p), .int (if law then 1 else 0)] σ Q := by
  have vm : vp_in (nI p) 1300 := vp_in_nI (by omega) (by decide)
  have hcl : (nI p).toNatClampNeg = p := nI_clamp (by omega)
  have hlt := hT.2 p hp
  refine K104 (B104_0 ⟨vm, ?_⟩)
  rw [hcl, hlt]
  refine ci (fun _ => c105 (hb p)) ?_
  cases q1 : isL (b p)
  · refine ⟨fun _ => ⟨vm, ?_⟩, fun h => absurd (by decide) h⟩
    rw [hlt]
    refine ci (fun _ => c106 (hb p)) ?_
    cases q2 : isD (b p)
    · refine ⟨fun _ => ⟨vm, ?_⟩, fun h => absurd (by decide) h⟩
      have eT : tkA b n law p = ((if b p = 59 ∨ (law = true ∧ isG (b p) = true) then 3 else 4, p, b p), p + 1) := by
        unfold tkA; rw [if_neg (by rw [q1]; decide), if_neg (by rw [q2]; decide)]
      rw [eT] at K
      rw [hlt, ch_v (hb p), nI_64 (by have := hb p; omega), nI_1]
      have k := K (jJ ((b p : Nat) : Int)) (fun _ => rfl)
      have l : nI (b p) = 59 ↔ b p = 59 := nI_eq (b := 59) (by have := hb p; omega) (by omega)
      rw [l]
      have k4 : ¬ (b p = 59 ∨ (law = true ∧ isG (b p) = true)) → Cv Θ (d + 3) 103 [.ref 1, .int 4, .int (nI p), .long (jJ ((b p : Nat) : Int))] σ (fun σ17 => Q (some (.int (nI (p + 1)))) σ17) := fun h => by
        rw [if_neg h] at k; exact c103 ht hl ⟨rfl, k⟩
      have k3 : (b p = 59 ∨ (law = true ∧ isG (b p) = true)) → Cv Θ (d + 3) 103 [.ref 1, .int 3, .int (nI p), .long (jJ ((b p : Nat) : Int))] σ (fun σ17 => Q (some (.int (nI (p + 1)))) σ17) := fun h => by
        rw [if_pos h] at k; exact c103 ht hl ⟨rfl, k⟩
      refine ⟨fun h => k3 (Or.inl h), fun h => ⟨fun h0 => k4 ?_, fun h0 => ?_⟩⟩
      · rintro (z | ⟨z, -⟩)
        · exact h z
        · rw [z] at h0; exact absurd h0 (by decide)
      · have hlaw : law = true := by
          cases law
          · exact absurd rfl h0
          · rfl
        refine c295 (hb p) (fun hg x hx => ⟨x, rfl, fun h => absurd h hx, fun _ => k3 (Or.inr ⟨hlaw, hg⟩)⟩) (fun hg => ⟨_, rfl, fun _ => k4 ?_, fun h => absurd (by decide) h⟩)
        rintro (z | ⟨-, z⟩)
        · exact h z
        · rw [hg] at z; cases z
    · refine ⟨fun h => absurd h (by decide), fun _ => ?_⟩
      obtain ⟨e, h1, h2, h3, h4⟩ := ext_ex (P := inD b n) (n := n) (fun k => inD_lt) n p (by omega) (by omega)
      have eT : tkA b n law p = ((if e - p ≤ 4 ∧ inL b n e = false then 2 else 4, p, nv b p (e - p)), e) := by
        unfold tkA; rw [if_neg (by rw [q1]; decide), if_pos q2, ext_eq h3 h4 h1 (by omega)]
      rw [eT] at K
      have k := K _ (fun _ => rfl)
      refine c108 hn hb hT ht hl h1 h2 h3 h4 ⟨_, rfl, ?_⟩
      by_cases z : e - p ≤ 4 ∧ inL b n e = false
      · rw [if_pos z] at k ⊢; exact k
      · rw [if_neg z] at k ⊢; exact k
  · refine ⟨fun h => absurd h (by decide), fun _ => ?_⟩
    obtain ⟨e, h1, h2, h3, h4⟩ := ext_ex (P := inL b n) (n := n) (fun k => inL_lt) n p (by omega) (by omega)
    have eT : tkA b n law p = ((if e - p ≤ 8 then 1 else 4, p, wv b p (e - p)), e) := by
      unfold tkA; rw [if_pos q1, ext_eq h3 h4 h1 (by omega)]
    rw [eT] at K
    refine c107 hn hb hT ht hl h1 h2 h3 h4 fun x hx => ⟨_, rfl, ?_⟩
    have k := K x (fun h => hx ((Classical.em (e - p ≤ 8)).resolve_right fun z => h (if_neg z)))
    by_cases z : e - p ≤ 8
    · rw [if_pos z] at k ⊢; exact k
    · rw [if_neg z] at k ⊢; exact k
end opn
