/-! CONTRACTS: the reference's token -/
section rt2
variable {Θ : Th} {d : Nat} {σ : Mem} {Q : Po} {b : Nat → Nat} {n : Nat} {law : Bool}
theorem srt_3 {t : Tk} (h : t.1 = 3 → 40 ≤ t.2.2) : srt t = 3 ↔ t.1 = 4 := by
  unfold srt
  by_cases q : t.1 = 4
  · rw [if_pos q]; exact ⟨fun _ => q, fun _ => rfl⟩
  · rw [if_neg q]
    split <;> omega
theorem hrB_is (hb : ∀ i, b i < 256) {i c : Nat} (hc : c < 256) : iI (hrB b n i) = nI c ↔ i < n ∧ b i = c := by
  have hz := hrB_b (n := n) hb i
  rw [iI_nI, iI_eq (by omega) (by omega) (by omega) (by omega)]
  unfold hrB
  split <;> omega
theorem rt_fin {s : Mem} {t : Tk} {e p i : Nat} (hn : n ≤ 1300) (K : ∀ σ', FrK σ σ' → StR (tkn b n law i) σ' → Q none σ') (hs : FrK σ s) (ha : s.1 124 4 = nI p) (h6 : s.1 124 6 = nI (srt t)) (h7 : s.1 124 7 = nI t.2.1) (h9 : t.1 = 1 → s.2.1 124 9 = jJ ((t.2.2 : Nat) : Int)) (h8 : t.1 = 2 → s.1 124 8 = nI t.2.2)
    (hpe : p ≤ e) (he : e ≤ n) (h3 : srt t = 3 ↔ t.1 = 4) (h300 : srt t < 300) (hT : tkn b n law i = (t, e)) : G Θ (d + 1) 175 245 [some (.ref 124), none, some (.int (nI (e - p)))] [] s Q := by
  refine B175_245 ?_
  have l : nI (srt t) = 3 ↔ srt t = 3 := nI_eq (b := 3) (by omega) (by omega)
  rw [h6, l, h3]
  refine ⟨fun h => B175_263 (K s hs ?_), fun h => B175_263 (K _ (frK_I hs (Or.inl rfl)) ?_)⟩
  · rw [hT]; exact ⟨h6, h7, h9, h8, fun q => absurd h q⟩
  · rw [hT, ha, nI_add, show p + (e - p) = e by omega]
    exact ⟨by rw [sI_of _ _ (by omega)]; exact h6, by rw [sI_of _ _ (by omega)]; exact h7, h9, fun q => by rw [sI_of _ _ (by omega)]; exact h8 q, fun _ => by rw [sI_at]⟩
theorem rt_let {i p e : Nat} (hn : n ≤ 1300) (hb : ∀ i, b i < 256) (hT : TpR b n law σ) (K : ∀ σ', FrK σ σ' → StR (tkn b n law i) σ' → Q none σ') (h1 : p ≤ e) (h2 : e ≤ n) (h3 : ∀ k, p ≤ k → k < e → inL b n k = true) (h4 : inL b n e = false) (hE : tkn b n law i = ((if e - p ≤ 8 then 1 else 4, p, wv b p (e - p)), e))
    {s0 : Mem} (f0 : FrK σ s0) (a0 : s0.1 124 4 = nI p) (p0 : s0.1 124 7 = nI p) (w0 : s0.2.1 124 9 = 0) : G Θ (d + 1) 175 78 [some (.ref 124), none, some (.int 0)] [] s0 Q := by
  have start := loopS (α := Mem) (I := fun k s => FrK σ s ∧ s.1 124 4 = nI p ∧ s.1 124 7 = nI p ∧ (k ≤ 8 → s.2.1 124 9 = jJ ((wv b p k : Nat) : Int))) (P := fun k s => G Θ (d + 1) 175 78 [some (.ref 124), none, some (.int (nI k))] [] s Q) (e - p) ?_ ?_ s0 ⟨f0, a0, p0, fun _ => w0⟩
  · exact start
  · intro s ⟨hs, ha, hp, hw⟩
    refine B175_78 ?_
    refine ci (fun _ => c171 hn (TpR_fr hT hs) ha (by omega) (by omega)) ?_
    rw [show p + (e - p) = e by omega]
    refine ci (fun _ => c172 hb) ?_
    rw [h4]
    have l : nI (e - p) ≤ 8 ↔ e - p ≤ 8 := nI_leI (b := 8) (by omega) (by omega)
    rw [l]
    refine ⟨fun _ => ⟨fun h8 => ?_, fun h8 => ?_⟩, fun h => absurd (by decide) h⟩
    · rw [if_pos h8] at hE
      refine rt_fin (t := (1, p, wv b p (e - p))) hn K (frK_I hs (by omega)) (by rw [sI_of _ _ (by omega)]; exact ha) (by rw [sI_at]; rfl) (by rw [sI_of _ _ (by omega)]; exact hp) (fun _ => hw h8) (fun h => by cases h) h1 h2 (srt_3 fun h => by cases h) (by show 1 < 300; omega) hE
    · rw [if_neg h8] at hE
      refine rt_fin hn K (frK_I hs (by omega)) (by rw [sI_of _ _ (by omega)]; exact ha) (by rw [sI_at]; rfl) (by rw [sI_of _ _ (by omega)]; exact hp) (fun h => by cases h) (fun h => by cases h) h1 h2 ⟨fun _ => rfl, fun _ => rfl⟩ (by show 3 < 300; omega) hE
  · intro k s hk ⟨hs, ha, hp, hw⟩ ih
    have hL : inL b n (p + k) = true := h3 _ (by omega) (by omega)
    have hlt := inL_lt hL
    have nx : ∀ s', FrK σ s' → s'.1 124 4 = nI p → s'.1 124 7 = nI p → (k + 1 ≤ 8 → s'.2.1 124 9 = jJ ((wv b p (k + 1) : Nat) : Int)) → G Θ (d + 1) 175 113 [some (.ref 124), none, some (.int (nI k))] [] s' Q := fun s' g1 g2 g3 g4 => by
      refine B175_113 ?_
      rw [nI_1]
      exact ih s' ⟨g1, g2, g3, g4⟩
    refine B175_78 ?_
    refine ci (fun _ => c171 hn (TpR_fr hT hs) ha (by omega) (by omega)) ?_
    refine ci (fun _ => c172 hb) ?_
    rw [hL]
    have l : (8 : Int32) ≤ nI k ↔ 8 ≤ k := nI_leI (a := 8) (by omega) (by omega)
    rw [l]
    refine ⟨fun h => absurd h (by decide), fun _ => ⟨fun h8 => nx s hs ha hp (fun h => by omega), fun h8 => ?_⟩⟩
    refine ci (fun _ => c171 hn (TpR_fr hT hs) ha (by omega) (by omega)) ?_
    have e1 : hrB b n (p + k) = ((b (p + k) : Nat) : Int) := if_pos hlt
    have := hb (p + k)
    rw [e1, hw (by omega), iI_l (by omega) (by omega), shl8 (by
      have w := wv_lt hb p (k + 1)
      have w8 : 256 ^ (k + 1) ≤ 256 ^ 8 := Nat.pow_le_pow_right (by decide) (by omega)
      exact Nat.lt_of_lt_of_le w w8) (hb _)]
    exact nx _ (frK_L hs) ha hp fun _ => by rw [sL_at]; rfl
theorem rt_dig {i p e : Nat} (hn : n ≤ 1300) (hb : ∀ i, b i < 256) (hT : TpR b n law σ) (K : ∀ σ', FrK σ σ' → StR (tkn b n law i) σ' → Q none σ') (h1 : p ≤ e) (h2 : e ≤ n) (h3 : ∀ k, p ≤ k → k < e → inD b n k = true) (h4 : inD b n e = false) (hE : tkn b n law i = ((if e - p ≤ 4 ∧ inL b n e = false then 2 else 4, p, nv b p (e - p)), e))
    {s0 : Mem} (f0 : FrK σ s0) (a0 : s0.1 124 4 = nI p) (p0 : s0.1 124 7 = nI p) (w0 : s0.1 124 8 = 0) : G Θ (d + 1) 175 144 [some (.ref 124), none, some (.int 0)] [] s0 Q := by
  have start := loopS (α := Mem) (I := fun k s => FrK σ s ∧ s.1 124 4 = nI p ∧ s.1 124 7 = nI p ∧ (k ≤ 4 → s.1 124 8 = nI (nv b p k))) (P := fun k s => G Θ (d + 1) 175 144 [some (.ref 124), none, some (.int (nI k))] [] s Q) (e - p) ?_ ?_ s0 ⟨f0, a0, p0, fun _ => w0⟩
  · exact start
  · intro s ⟨hs, ha, hp, hw⟩
    refine B175_144 ?_
    refine ci (fun _ => c171 hn (TpR_fr hT hs) ha (by omega) (by omega)) ?_
    rw [show p + (e - p) = e by omega]
    refine ci (fun _ => c173 hb) ?_
    rw [h4]
    have l : (4 : Int32) < nI (e - p) ↔ 4 < e - p := nI_ltI (a := 4) (by omega) (by omega)
    rw [l]
    have badE : ¬ (e - p ≤ 4 ∧ inL b n e = false) → G Θ (d + 1) 175 245 [some (.ref 124), none, some (.int (nI (e - p)))] [] (sI s 124 6 3) Q := fun h => by
      rw [if_neg h] at hE
      exact rt_fin hn K (frK_I hs (by omega)) (by rw [sI_of _ _ (by omega)]; exact ha) (by rw [sI_at]; rfl) (by rw [sI_of _ _ (by omega)]; exact hp) (fun h => by cases h) (fun h => by cases h) h1 h2 ⟨fun _ => rfl, fun _ => rfl⟩ (by show 3 < 300; omega) hE
    refine ⟨fun _ => ⟨fun h4' => badE (by omega), fun h4' => ?_⟩, fun h => absurd (by decide) h⟩
    refine ci (fun _ => c171 hn (TpR_fr hT hs) ha (by omega) (by omega)) ?_
    rw [show p + (e - p) = e by omega]
    refine ci (fun _ => c172 hb) ?_
    cases q : inL b n e
    · rw [q, if_pos ⟨by omega, rfl⟩] at hE
      refine ⟨fun _ => ?_, fun h => absurd (by decide) h⟩
      exact rt_fin (t := (2, p, nv b p (e - p))) hn K (frK_I hs (by omega)) (by rw [sI_of _ _ (by omega)]; exact ha) (by rw [sI_at]; rfl) (by rw [sI_of _ _ (by omega)]; exact hp) (fun h => by cases h) (fun _ => by rw [sI_of _ _ (by omega)]; exact hw (by omega)) h1 h2 (srt_3 fun h => by cases h) (by show 2 < 300; omega) hE
    · exact ⟨fun h => absurd h (by decide), fun _ => badE (by rw [q]; simp)⟩
  · intro k s hk ⟨hs, ha, hp, hw⟩ ih
    have hL : inD b n (p + k) = true := h3 _ (by omega) (by omega)
    have hlt := inD_lt hL
    have nx : ∀ s', FrK σ s' → s'.1 124 4 = nI p → s'.1 124 7 = nI p → (k + 1 ≤ 4 → s'.1 124 8 = nI (nv b p (k + 1))) → G Θ (d + 1) 175 180 [some (.ref 124), none, some (.int (nI k))] [] s' Q := fun s' g1 g2 g3 g4 => by
      refine B175_180 ?_
      rw [nI_1]
      exact ih s' ⟨g1, g2, g3, g4⟩
    refine B175_144 ?_
    refine ci (fun _ => c171 hn (TpR_fr hT hs) ha (by omega) (by omega)) ?_
    refine ci (fun _ => c173 hb) ?_
    rw [hL]
    have l : (4 : Int32) ≤ nI k ↔ 4 ≤ k := nI_leI (a := 4) (by omega) (by omega)
    rw [l]
    refine ⟨fun h => absurd h (by decide), fun _ => ⟨fun h8 => nx s hs ha hp (fun h => by omega), fun h8 => ?_⟩⟩
    refine ci (fun _ => c171 hn (TpR_fr hT hs) ha (by omega) (by omega)) ?_
    have e1 : hrB b n (p + k) = ((b (p + k) : Nat) : Int) := if_pos hlt
    rw [e1, hw (by omega)]
    refine nx _ (frK_I hs (by omega)) (by rw [sI_of _ _ (by omega)]; exact ha) (by rw [sI_of _ _ (by omega)]; exact hp) fun _ => ?_
    rw [sI_at, iI_nI, show (10 : Int32) = iI 10 from rfl, show (48 : Int32) = iI 48 from rfl, iI_mul, iI_add, iI_sub, iI_nI]
    congr 1
    rw [inD_b hlt] at hL
    unfold isD at hL; rw [Bool.and_eq_true, decide_eq_true_eq, decide_eq_true_eq] at hL
    show 10 * ((nv b p k : Nat) : Int) + ((b (p + k) : Nat) : Int) - 48 = ((nv b p k * 10 + (b (p + k) - 48) : Nat) : Int)
    omega
theorem c175 {i : Nat} (hn : n ≤ 1300) (hb : ∀ i, b i < 256) (hT : TpR b n law σ) (hi : i ≤ n) (ha : σ.1 124 4 = nI i) (K : ∀ σ', FrK σ σ' → StR (tkn b n law i) σ' → Q none σ') : Cm Θ (d + 1) 175 [.ref 124] σ Q := by
  obtain ⟨p, g1, g2, g3, g4⟩ := ext_ex (P := inB b n) (n := n) (fun k => inB_lt) n i (by omega) (by omega)
  have eN := tkn_at (law := law) g1 (by omega) g3 g4
  refine K175 ?_
  have start := loopS (α := Mem) (I := fun k s => FrK σ s ∧ s.1 124 4 = nI (i + k)) (P := fun k s => G Θ (d + 1) 175 0 [some (.ref 124), none, none] [] s Q) (p - i) ?_ ?_ σ ⟨frK_rfl, ha⟩
  · exact start
  · intro s ⟨hs, hp⟩
    rw [show i + (p - i) = p by omega] at hp
    have hTs := TpR_fr hT hs
    have nb : ∀ c : Nat, c = 32 ∨ c = 10 → ¬ iI (hrB b n (p + 0)) = nI c := fun c hc h => by
      have := (hrB_is hb (by omega)).mp h
      rw [Nat.add_zero] at this
      unfold inB isB at g4
      rw [decide_eq_true this.1, this.2] at g4
      rcases hc with rfl | rfl <;> exact absurd g4 (by decide)
    refine B175_0 ?_
    refine ci (fun _ => c171 (k := 0) hn hTs hp (by omega) (by omega)) ⟨fun h => absurd h (nb 32 (Or.inl rfl)), fun _ => ?_⟩
    refine ci (fun _ => c171 (k := 0) hn hTs hp (by omega) (by omega)) ⟨fun _ => ?_, fun h => absurd h (nb 10 (Or.inr rfl))⟩
    rw [hp]
    obtain ⟨s1, hs1⟩ : ∃ s1, s1 = sI s 124 7 (nI p) := ⟨_, rfl⟩
    rw [← hs1]
    have f1 : FrK σ s1 := by rw [hs1]; exact frK_I hs (by omega)
    have a1 : s1.1 124 4 = nI p := by rw [hs1, sI_of _ _ (by omega)]; exact hp
    have p1 : s1.1 124 7 = nI p := by rw [hs1, sI_at]
    refine ci (fun _ => c171 (k := 0) hn (TpR_fr hT f1) a1 (by omega) (by omega)) ?_
    rw [Nat.add_zero]
    have hz := hrB_b (n := n) hb p
    have l : (0 : Int32) ≤ iI (hrB b n p) ↔ p < n := by
      have : (0 : Int32) ≤ iI (hrB b n p) ↔ 0 ≤ hrB b n p := iI_le (a := 0) (by omega) (by omega) (by omega) (by omega)
      rw [this]; unfold hrB; split <;> omega
    rw [l]
    obtain ⟨s2, hs2⟩ : ∃ s2, s2 = sI (sL s1 124 9 0) 124 8 0 := ⟨_, rfl⟩
    rw [← hs2]
    have f2 : FrK σ s2 := by rw [hs2]; exact frK_I (frK_L f1) (by omega)
    have a2 : s2.1 124 4 = nI p := by rw [hs2, sI_of _ _ (by omega)]; exact a1
    have p2 : s2.1 124 7 = nI p := by rw [hs2, sI_of _ _ (by omega)]; exact p1
    have w2 : s2.2.1 124 9 = 0 := by rw [hs2, sI_L, sL_at]
    have n2 : s2.1 124 8 = 0 := by rw [hs2, sI_at]
    refine ⟨fun hlt => ?_, fun hge => ?_⟩
    · rw [if_neg (by omega)] at eN
      refine ci (fun _ => c172 hb) ?_
      rw [inL_b hlt]
      cases q1 : isL (b p)
      · refine ⟨fun _ => ?_, fun h => absurd (by decide) h⟩
        refine ci (fun _ => c173 hb) ?_
        rw [inD_b hlt]
        cases q2 : isD (b p)
        · refine ⟨fun _ => ?_, fun h => absurd (by decide) h⟩
          have eT : tkA b n law p = ((if b p = 59 ∨ (law = true ∧ isG (b p) = true) then 3 else 4, p, b p), p + 1) := by
            unfold tkA; rw [if_neg (by rw [q1]; decide), if_neg (by rw [q2]; decide)]
          rw [eT] at eN
          have e1 : iI (hrB b n p) = nI (b p) := by rw [iI_nI]; unfold hrB; rw [if_pos hlt]
          have hbp := hb p
          have l59 : nI (b p) = 59 ↔ b p = 59 := nI_eq (b := 59) (by omega) (by omega)
          rw [e1, l59]
          have one : (1 : Int32) = nI (p + 1 - p) := by rw [show p + 1 - p = 1 by omega]; rfl
          rw [one]
          have bad : ¬ (b p = 59 ∨ (law = true ∧ isG (b p) = true)) → G Θ (d + 1) 175 245 [some (.ref 124), none, some (.int (nI (p + 1 - p)))] [] (sI s2 124 6 3) Q := fun h => by
            rw [if_neg h] at eN
            exact rt_fin hn K (frK_I f2 (by omega)) (by rw [sI_of _ _ (by omega)]; exact a2) (by rw [sI_at]; rfl) (by rw [sI_of _ _ (by omega)]; exact p2) (fun h => by cases h) (fun h => by cases h) (by omega) (by omega) ⟨fun _ => rfl, fun _ => rfl⟩ (by show 3 < 300; omega) eN
          have good : (b p = 59 ∨ (law = true ∧ isG (b p) = true)) → G Θ (d + 1) 175 245 [some (.ref 124), none, some (.int (nI (p + 1 - p)))] [] (sI s2 124 6 (nI (b p))) Q := fun h => by
            rw [if_pos h] at eN
            have h40 : 40 ≤ b p := by
              rcases h with h | ⟨-, h⟩
              · omega
              · unfold isG at h; simp at h; omega
            refine rt_fin hn K (frK_I f2 (by omega)) (by rw [sI_of _ _ (by omega)]; exact a2) (by rw [sI_at]; rfl) (by rw [sI_of _ _ (by omega)]; exact p2) (fun h => by cases h) (fun h => by cases h) (by omega) (by omega) ⟨fun h => ?_, fun h => by cases h⟩ (by show b p < 300; omega) eN
            have h : b p = 3 := h
            omega
          refine ⟨fun h => good (Or.inl h), fun h => ?_⟩
          rw [(TpR_fr hT f2).2.2]
          cases hl : law
          · subst hl
            have nb' : ¬ (b p = 59 ∨ (false = true ∧ isG (b p) = true)) := by
              rintro (z | ⟨z, -⟩)
              · exact h z
              · cases z
            exact ⟨fun _ => bad nb', fun h => absurd (by decide) h⟩
          · subst hl
            refine ⟨fun h => absurd h (by decide), fun _ => ?_⟩
            refine ci (fun _ => c174 hbp) ?_
            cases hg : isG (b p)
            · have nb' : ¬ (b p = 59 ∨ (true = true ∧ isG (b p) = true)) := by
                rintro (z | ⟨-, z⟩)
                · exact h z
                · rw [hg] at z; cases z
              exact ⟨fun _ => bad nb', fun h => absurd (by decide) h⟩
            · exact ⟨fun h => absurd h (by decide), fun _ => good (Or.inr ⟨rfl, hg⟩)⟩
        · refine ⟨fun h => absurd h (by decide), fun _ => ?_⟩
          obtain ⟨e, k1, k2, k3, k4⟩ := ext_ex (P := inD b n) (n := n) (fun k => inD_lt) n p (by omega) (by omega)
          have eT : tkA b n law p = ((if e - p ≤ 4 ∧ inL b n e = false then 2 else 4, p, nv b p (e - p)), e) := by
            unfold tkA; rw [if_neg (by rw [q1]; decide), if_pos q2, ext_eq k3 k4 k1 (by omega)]
          exact rt_dig hn hb hT K k1 k2 k3 k4 (eN.trans eT) f2 a2 p2 n2
      · refine ⟨fun h => absurd h (by decide), fun _ => ?_⟩
        obtain ⟨e, k1, k2, k3, k4⟩ := ext_ex (P := inL b n) (n := n) (fun k => inL_lt) n p (by omega) (by omega)
        have eT : tkA b n law p = ((if e - p ≤ 8 then 1 else 4, p, wv b p (e - p)), e) := by
          unfold tkA; rw [if_pos q1, ext_eq k3 k4 k1 (by omega)]
        exact rt_let hn hb hT K k1 k2 k3 k4 (eN.trans eT) f2 a2 p2 w2
    · rw [if_pos (by omega)] at eN
      have zero : (0 : Int32) = nI (p - p) := by rw [Nat.sub_self]; rfl
      have := rt_fin (Θ := Θ) (d := d) (t := (0, p, 0)) hn K (frK_I (v := 0) f2 (y := 6) (by omega)) (by rw [sI_of _ _ (by omega)]; exact a2) (by rw [sI_at]; rfl) (by rw [sI_of _ _ (by omega)]; exact p2) (fun h => by cases h) (fun h => by cases h) (Nat.le_refl p) (by omega) (srt_3 fun h => by cases h) (by show 0 < 300; omega) eN
      rw [← zero] at this
      exact this
  · intro k s hk ⟨hs, hp⟩ ih
    have hTs := TpR_fr hT hs
    have hB := g3 (i + k) (by omega) (by omega)
    have hlt := inB_lt hB
    have hv : b (i + k) = 32 ∨ b (i + k) = 10 := by
      unfold inB isB at hB; rw [Bool.and_eq_true, Bool.or_eq_true, decide_eq_true_eq, decide_eq_true_eq, decide_eq_true_eq] at hB; exact hB.2
    have nx : G Θ (d + 1) 175 20 [some (.ref 124), none, none] [] s Q := by
      refine B175_20 ?_
      rw [hp, nI_1]
      exact ih _ ⟨frK_I hs (by omega), by rw [sI_at]; rfl⟩
    refine B175_0 ?_
    refine ci (fun _ => c171 (k := 0) hn hTs hp (by omega) (by omega)) ⟨fun _ => nx, fun h1 => ?_⟩
    refine ci (fun _ => c171 (k := 0) hn hTs hp (by omega) (by omega)) ⟨fun h2 => ?_, fun _ => nx⟩
    rw [Nat.add_zero] at h1 h2
    rcases hv with hv | hv
    · exact absurd ((hrB_is (c := 32) hb (by omega)).mpr ⟨hlt, hv⟩) h1
    · exact absurd ((hrB_is (c := 10) hb (by omega)).mpr ⟨hlt, hv⟩) h2
end rt2
