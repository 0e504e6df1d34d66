/-! CONTRACTS: the reference's words, numbers, names -/
def rsO : Option Nat → Int32
  | none => -1
  | some i => nI i
section rnp
variable {Θ : Th} {d : Nat} {σ : Mem} {Q : Po} {b : Nat → Nat} {n : Nat} {law : Bool}
theorem c178 {j : Nat} (hn : n ≤ 1300) (hb : ∀ i, b i < 256) (h : TkR b n law j σ) (k : Q (some (.int (if isNm (tok b n law j) then 1 else 0))) σ) : Cm Θ (d + 1) 178 [.ref 124] σ Q := by
  obtain ⟨s1, -, s3, -⟩ := TkR_st h
  have bv := (tok_v (law := law) hn hb j).2.1
  have l : nI (srt (tok b n law j)) = 1 ↔ srt (tok b n law j) = 1 := nI_eq (b := 1) (by have := srt_lt (law := law) hn hb j; omega) (by omega)
  have no : isNm (tok b n law j) = false → Q (some (.int 0)) σ := fun z => by rw [if_neg (by rw [z]; decide)] at k; exact k
  refine K178 (B178_0 ?_)
  refine K179 (B179_0 ?_)
  rw [s1, l, srt_k hn j (by omega)]
  refine ⟨fun q => ⟨_, rfl, fun _ => no ?_, fun z => absurd rfl z⟩, fun q => ?_⟩
  · unfold isNm; rw [decide_eq_false q]; rfl
  have hv := s3 q
  have E : ∀ (c : Nat) (C : Int64), C = jJ ((c : Nat) : Int) → c < 2 ^ 64 → (lg_cmp (σ.2.1 124 9) C = 0 ↔ (tok b n law j).2.2 = c) := fun c C hC hc => by rw [hv, hC, lc_eq, jJ_inj (bv (by omega)) hc]
  have w10 : lg_cmp (σ.2.1 124 9) 2003330414 = 0 ↔ (tok b n law j).2.2 = 2003330414 := E 2003330414 2003330414 (by decide +kernel) (by decide)
  have w11 : lg_cmp (σ.2.1 124 9) 465557353332 = 0 ↔ (tok b n law j).2.2 = 465557353332 := E 465557353332 465557353332 (by decide +kernel) (by decide)
  have w12 : lg_cmp (σ.2.1 124 9) 1836020596 = 0 ↔ (tok b n law j).2.2 = 1836020596 := E 1836020596 1836020596 (by decide +kernel) (by decide)
  have w13 : lg_cmp (σ.2.1 124 9) 28530 = 0 ↔ (tok b n law j).2.2 = 28530 := E 28530 28530 (by decide +kernel) (by decide)
  have w14 : lg_cmp (σ.2.1 124 9) 6385252 = 0 ↔ (tok b n law j).2.2 = 6385252 := E 6385252 6385252 (by decide +kernel) (by decide)
  have w15 : lg_cmp (σ.2.1 124 9) 7237492 = 0 ↔ (tok b n law j).2.2 = 7237492 := E 7237492 7237492 (by decide +kernel) (by decide)
  have w0 : lg_cmp (σ.2.1 124 9) 1835102827 = 0 ↔ (tok b n law j).2.2 = 1835102827 := E 1835102827 1835102827 (by decide +kernel) (by decide)
  have w1 : lg_cmp (σ.2.1 124 9) 29807 = 0 ↔ (tok b n law j).2.2 = 29807 := E 29807 29807 (by decide +kernel) (by decide)
  have w2 : lg_cmp (σ.2.1 124 9) 474148660594 = 0 ↔ (tok b n law j).2.2 = 474148660594 := E 474148660594 474148660594 (by decide +kernel) (by decide)
  have w3 : lg_cmp (σ.2.1 124 9) 1667330917 = 0 ↔ (tok b n law j).2.2 = 1667330917 := E 1667330917 1667330917 (by decide +kernel) (by decide)
  have w4 : lg_cmp (σ.2.1 124 9) 457236047717 = 0 ↔ (tok b n law j).2.2 = 457236047717 := E 457236047717 457236047717 (by decide +kernel) (by decide)
  have w5 : lg_cmp (σ.2.1 124 9) 26990 = 0 ↔ (tok b n law j).2.2 = 26990 := E 26990 26990 (by decide +kernel) (by decide)
  have w6 : lg_cmp (σ.2.1 124 9) 444150998382 = 0 ↔ (tok b n law j).2.2 = 444150998382 := E 444150998382 444150998382 (by decide +kernel) (by decide)
  have w7 : lg_cmp (σ.2.1 124 9) 131277443786868 = 0 ↔ (tok b n law j).2.2 = 131277443786868 := E 131277443786868 131277443786868 (by decide +kernel) (by decide)
  have w8 : lg_cmp (σ.2.1 124 9) 1953459300 = 0 ↔ (tok b n law j).2.2 = 1953459300 := E 1953459300 1953459300 (by decide +kernel) (by decide)
  have w9 : lg_cmp (σ.2.1 124 9) 1870030194 = 0 ↔ (tok b n law j).2.2 = 1870030194 := E 1870030194 1870030194 (by decide +kernel) (by decide)
  have N : ∀ m c : Nat, m < 16 → nmL.getD m 0 = c → (tok b n law j).2.2 = c → Q (some (.int 0)) σ := fun m c hm hc e => no (isNm_no hm (e.trans hc.symm))
  rw [w10]
  refine ⟨fun e => ⟨_, rfl, fun _ => N 10 _ (by decide) (by decide +kernel) e, fun z => absurd rfl z⟩, fun n10 => ?_⟩
  rw [w11]
  refine ⟨fun e => ⟨_, rfl, fun _ => N 11 _ (by decide) (by decide +kernel) e, fun z => absurd rfl z⟩, fun n11 => ?_⟩
  rw [w12]
  refine ⟨fun e => ⟨_, rfl, fun _ => N 12 _ (by decide) (by decide +kernel) e, fun z => absurd rfl z⟩, fun n12 => ?_⟩
  rw [w13]
  refine ⟨fun e => ⟨_, rfl, fun _ => N 13 _ (by decide) (by decide +kernel) e, fun z => absurd rfl z⟩, fun n13 => ?_⟩
  rw [w14]
  refine ⟨fun e => ⟨_, rfl, fun _ => N 14 _ (by decide) (by decide +kernel) e, fun z => absurd rfl z⟩, fun n14 => ?_⟩
  rw [w15]
  refine ⟨fun e => ⟨_, rfl, fun _ => N 15 _ (by decide) (by decide +kernel) e, fun z => absurd rfl z⟩, fun n15 => ?_⟩
  refine ⟨_, rfl, fun z => absurd z (by decide), fun _ => ?_⟩
  rw [w0]
  refine ⟨fun e => N 0 _ (by decide) (by decide +kernel) e, fun n0 => ?_⟩
  rw [w1]
  refine ⟨fun e => N 1 _ (by decide) (by decide +kernel) e, fun n1 => ?_⟩
  rw [w2]
  refine ⟨fun e => N 2 _ (by decide) (by decide +kernel) e, fun n2 => ?_⟩
  rw [w3]
  refine ⟨fun e => N 3 _ (by decide) (by decide +kernel) e, fun n3 => ?_⟩
  rw [w4]
  refine ⟨fun e => N 4 _ (by decide) (by decide +kernel) e, fun n4 => ?_⟩
  rw [w5]
  refine ⟨fun e => N 5 _ (by decide) (by decide +kernel) e, fun n5 => ?_⟩
  rw [w6]
  refine ⟨fun e => N 6 _ (by decide) (by decide +kernel) e, fun n6 => ?_⟩
  rw [w7]
  refine ⟨fun e => N 7 _ (by decide) (by decide +kernel) e, fun n7 => ?_⟩
  rw [w8]
  refine ⟨fun e => N 8 _ (by decide) (by decide +kernel) e, fun n8 => ?_⟩
  rw [w9]
  refine ⟨fun e => N 9 _ (by decide) (by decide +kernel) e, fun n9 => ?_⟩
  have Y : isNm (tok b n law j) = true := isNm_yes q fun m hm => match m, hm with
    | 0, _ => n0
    | 1, _ => n1
    | 2, _ => n2
    | 3, _ => n3
    | 4, _ => n4
    | 5, _ => n5
    | 6, _ => n6
    | 7, _ => n7
    | 8, _ => n8
    | 9, _ => n9
    | 10, _ => n10
    | 11, _ => n11
    | 12, _ => n12
    | 13, _ => n13
    | 14, _ => n14
    | 15, _ => n15
    | m + 16, hm => absurd hm (by omega)
  rw [if_pos Y] at k
  exact k
theorem c180f {e : Fa} {x : Int64} (h : FaR e σ) (K : Q none σ) : Cm Θ (d + 1) 180 [.ref 124, .long x] σ Q :=
  K180 (B180_0 ⟨fun q => absurd q (FaR_n h).1, fun _ => K⟩)
theorem c180 {j w : Nat} (hn : n ≤ 1300) (hb : ∀ i, b i < 256) (h : TkR b n law j σ) (hw : w < 2 ^ 64)
    (KE : ∀ e σ', rW (tok b n law) w j = .error e → FrT σ σ' → FaR e σ' → Q none σ')
    (KO : ∀ σ', rW (tok b n law) w j = .ok (j + 1) → FrT σ σ' → TkR b n law (j + 1) σ' → Q none σ') : Cm Θ (d + 2) 180 [.ref 124, .long (jJ (w : Int))] σ Q := by
  refine K180 (B180_0 ⟨fun _ => ?_, fun q => absurd (TkR_0 h).1 q⟩)
  refine ci (fun _ => c177 hn hb h hw) ?_
  by_cases q : (tok b n law j).1 = 1 ∧ (tok b n law j).2.2 = w
  · rw [if_pos q]
    exact ⟨fun _ => c175n hn hb h (by omega) fun s f t => ⟨rfl, KO s (if_pos q) f t⟩, fun z => absurd z (by decide)⟩
  · rw [if_neg q]
    exact ⟨fun z => absurd rfl z, fun _ => c176 (f := 2) hn hb h (by omega) (by omega) fun s f t => ⟨rfl, KE _ s (if_neg q) f t⟩⟩
theorem c181f {e : Fa} {x y : Int32} (h : FaR e σ) (K : Q (some (.int 0)) σ) : Cm Θ (d + 1) 181 [.ref 124, .int x, .int y] σ Q :=
  K181 (B181_0 ⟨fun q => absurd q (FaR_n h).1, fun _ => K⟩)
theorem c181 {j lo hi : Nat} (hn : n ≤ 1300) (hb : ∀ i, b i < 256) (h : TkR b n law j σ) (h1 : lo < 1000) (h2 : hi < 1000)
    (KE : ∀ e σ' x, rN (tok b n law) lo hi j = .error e → FrT σ σ' → FaR e σ' → Q (some (.int x)) σ')
    (KO : ∀ σ' v, rN (tok b n law) lo hi j = .ok (v, j + 1) → lo ≤ v → v ≤ hi → FrT σ σ' → TkR b n law (j + 1) σ' → Q (some (.int (nI v))) σ') : Cm Θ (d + 2) 181 [.ref 124, .int (nI lo), .int (nI hi)] σ Q := by
  obtain ⟨s1, -, -, s4, -⟩ := TkR_st h
  have bv := (tok_v (law := law) hn hb j).2.2.1
  have l : nI (srt (tok b n law j)) = 2 ↔ srt (tok b n law j) = 2 := nI_eq (b := 2) (by have := srt_lt (law := law) hn hb j; omega) (by omega)
  refine K181 (B181_0 ⟨fun _ => ?_, fun q => absurd (TkR_0 h).1 q⟩)
  rw [s1, l, srt_k hn j (by omega)]
  refine ⟨fun q => ?_, fun q => c176 (f := 2) hn hb h (by omega) (by omega) fun s f t => ⟨rfl, fun _ => KE _ s _ (if_neg q) f t, fun z => absurd z (FaR_n t).2⟩⟩
  have hv := bv q
  rw [s4 q, nI_ltI (by omega) (by omega), nI_leI (by omega) (by omega)]
  have er : ¬ (lo ≤ (tok b n law j).2.2 ∧ (tok b n law j).2.2 ≤ hi) → rN (tok b n law) lo hi j = .error (flt 4 (tok b n law j)) := fun z => by
    unfold rN; rw [if_pos q, if_neg z]
  refine ⟨fun z => c176 (f := 4) hn hb h (by omega) (by omega) fun s f t => ⟨rfl, fun _ => KE _ s _ (er (by omega)) f t, fun y => absurd y (FaR_n t).2⟩, fun z => ⟨fun z' => ?_, fun z' => c176 (f := 4) hn hb h (by omega) (by omega) fun s f t => ⟨rfl, fun _ => KE _ s _ (er (by omega)) f t, fun y => absurd y (FaR_n t).2⟩⟩⟩
  refine ⟨fun y => absurd (TkR_0 h).2 y, fun _ => c175n hn hb h (by omega) fun s f t => ⟨rfl, KO s _ ?_ (by omega) z' f t⟩⟩
  unfold rN; rw [if_pos q, if_pos ⟨by omega, z'⟩]
theorem c182 {x1 : Int64} {nm : Nat → Nat} {mk : Nat} (h0 : σ.1 124 24 = nI mk) (hm : mk ≤ 6) (hr : ∀ i, i < mk → σ.2.1 126 i = jJ ((nm i : Nat) : Int) ∧ nm i < 2 ^ 64) (hd : ∀ i k, i < mk → k < mk → nm i = nm k → i = k)
    (K : ∀ x, (∀ w : Nat, x1 = jJ (w : Int) → w < 2 ^ 64 → x = rsO (fdN nm w mk)) → Q (some (.int x)) σ) : Cm Θ d 182 [.ref 124, .long x1] σ Q := by
  refine K182 (B182_0 ?_)
  have start := loopS (α := Int32) (I := fun i x => ∀ w : Nat, x1 = jJ (w : Int) → w < 2 ^ 64 → x = rsO (fdN nm w i)) (P := fun i x => G Θ d 182 5 [some (.ref 124), some (.long x1), none, some (.int x), some (.int (nI i))] [] σ Q) mk ?_ ?_ (-1) (fun _ _ _ => rfl)
  · exact start
  · intro x hx
    refine B182_5 ⟨fun _ => K x hx, fun q => ?_⟩
    rw [h0] at q; exact absurd (nI_le (Nat.le_refl _) (by omega)) q
  · intro i x hi hx ih
    refine B182_5 ⟨fun q => ?_, fun _ => ⟨vp_in_nI (by omega) (by decide), ?_⟩⟩
    · rw [h0] at q; exact absurd q (nI_ge hi (by omega))
    · rw [nI_clamp (by omega), (hr i hi).1, lc_eq, nI_1]
      refine ⟨fun e => ih x fun w hw hw' => ?_, fun e => ih (nI i) fun w hw hw' => ?_⟩
      · rw [hw, jJ_inj (hr i hi).2 hw'] at e
        rw [hx w hw hw']
        show rsO (fdN nm w i) = rsO (match fdN nm w i with | some y => some y | none => if nm i = w then some i else none)
        cases fdN nm w i with
        | some y => rfl
        | none => rw [if_neg e]
      · rw [hw, jJ_inj (hr i hi).2 hw'] at e
        have : fdN nm w (i + 1) = some i := fdN_some e (fun k hk z => by have := hd k i (by omega) hi (z.trans e.symm); omega) (by omega)
        rw [this]; rfl
theorem c183 {x1 : Int64} {nm : Nat → Nat} {mk : Nat} (h0 : σ.1 124 25 = nI mk) (hm : mk ≤ 16) (hr : ∀ i, i < mk → σ.2.1 127 i = jJ ((nm i : Nat) : Int) ∧ nm i < 2 ^ 64) (hd : ∀ i k, i < mk → k < mk → nm i = nm k → i = k)
    (K : ∀ x, (∀ w : Nat, x1 = jJ (w : Int) → w < 2 ^ 64 → x = rsO (fdN nm w mk)) → Q (some (.int x)) σ) : Cm Θ d 183 [.ref 124, .long x1] σ Q := by
  refine K183 (B183_0 ?_)
  have start := loopS (α := Int32) (I := fun i x => ∀ w : Nat, x1 = jJ (w : Int) → w < 2 ^ 64 → x = rsO (fdN nm w i)) (P := fun i x => G Θ d 183 5 [some (.ref 124), some (.long x1), none, some (.int x), some (.int (nI i))] [] σ Q) mk ?_ ?_ (-1) (fun _ _ _ => rfl)
  · exact start
  · intro x hx
    refine B183_5 ⟨fun _ => K x hx, fun q => ?_⟩
    rw [h0] at q; exact absurd (nI_le (Nat.le_refl _) (by omega)) q
  · intro i x hi hx ih
    refine B183_5 ⟨fun q => ?_, fun _ => ⟨vp_in_nI (by omega) (by decide), ?_⟩⟩
    · rw [h0] at q; exact absurd q (nI_ge hi (by omega))
    · rw [nI_clamp (by omega), (hr i hi).1, lc_eq, nI_1]
      refine ⟨fun e => ih x fun w hw hw' => ?_, fun e => ih (nI i) fun w hw hw' => ?_⟩
      · rw [hw, jJ_inj (hr i hi).2 hw'] at e
        rw [hx w hw hw']
        show rsO (fdN nm w i) = rsO (match fdN nm w i with | some y => some y | none => if nm i = w then some i else none)
        cases fdN nm w i with
        | some y => rfl
        | none => rw [if_neg e]
      · rw [hw, jJ_inj (hr i hi).2 hw'] at e
        have : fdN nm w (i + 1) = some i := fdN_some e (fun k hk z => by have := hd k i (by omega) hi (z.trans e.symm); omega) (by omega)
        rw [this]; rfl
end rnp
