/-! CONTRACTS: the reference reads a laws' text: operands and signs -/
def sgA (t : Tk) : Option Nat :=
  if t.1 = 3 ∧ t.2.2 = 43 then some 12 else if t.1 = 3 ∧ t.2.2 = 45 then some 13 else if t.1 = 3 ∧ t.2.2 = 42 then some 14 else if t.1 = 3 ∧ t.2.2 = 61 then some 11 else if t.1 = 3 ∧ t.2.2 = 60 then some 9 else if t.1 = 3 ∧ t.2.2 = 62 then some 10
  else if t.1 = 1 ∧ t.2.2 = 6385252 then some 8 else if t.1 = 1 ∧ t.2.2 = 28530 then some 7 else none
theorem sgA_of {t : Tk} {o : Nat} (h : sgA t = some o) : ∃ l, l ≤ 4 ∧ sgL t l = some o ∧ t.1 ≠ 4 ∧ ¬ (t.1 = 3 ∧ t.2.2 = 41) := by
  unfold sgA at h
  by_cases q1 : t.1 = 3 ∧ t.2.2 = 43
  · rw [if_pos q1] at h; exact ⟨3, by omega, by rw [← h]; unfold sgL; simp [q1], by omega, by omega⟩
  rw [if_neg q1] at h
  by_cases q2 : t.1 = 3 ∧ t.2.2 = 45
  · rw [if_pos q2] at h; exact ⟨3, by omega, by rw [← h]; unfold sgL; simp [q2], by omega, by omega⟩
  rw [if_neg q2] at h
  by_cases q3 : t.1 = 3 ∧ t.2.2 = 42
  · rw [if_pos q3] at h; exact ⟨4, by omega, by rw [← h]; unfold sgL; simp [q3], by omega, by omega⟩
  rw [if_neg q3] at h
  by_cases q4 : t.1 = 3 ∧ t.2.2 = 61
  · rw [if_pos q4] at h; exact ⟨2, by omega, by rw [← h]; unfold sgL; simp [q4], by omega, by omega⟩
  rw [if_neg q4] at h
  by_cases q5 : t.1 = 3 ∧ t.2.2 = 60
  · rw [if_pos q5] at h; exact ⟨2, by omega, by rw [← h]; unfold sgL; simp [q5], by omega, by omega⟩
  rw [if_neg q5] at h
  by_cases q6 : t.1 = 3 ∧ t.2.2 = 62
  · rw [if_pos q6] at h; exact ⟨2, by omega, by rw [← h]; unfold sgL; simp [q6], by omega, by omega⟩
  rw [if_neg q6] at h
  by_cases q7 : t.1 = 1 ∧ t.2.2 = 6385252
  · rw [if_pos q7] at h; exact ⟨1, by omega, by rw [← h]; unfold sgL; simp [q7], by omega, by omega⟩
  rw [if_neg q7] at h
  by_cases q8 : t.1 = 1 ∧ t.2.2 = 28530
  · rw [if_pos q8] at h; exact ⟨0, by omega, by rw [← h]; unfold sgL; simp [q8], by omega, by omega⟩
  rw [if_neg q8] at h; cases h
theorem sgA_is {t : Tk} {l o : Nat} (h : sgL t l = some o) : sgA t = some o := by
  unfold sgL at h
  unfold sgA
  repeat' split at h
  all_goals first | (cases h; done) | (rename_i q; cases h; simp [q])
theorem pops_len : ∀ (p : List Nat) (O : List (Nat × Nat)), (pops p O).length = p.length + O.length
  | [], O => by simp [pops]
  | c :: t, O => by
    show (pops t ((c, 0) :: O)).length = _
    rw [pops_len t]; simp; omega
theorem pops_app : ∀ (p q : List Nat) (O : List (Nat × Nat)), pops (p ++ q) O = pops q (pops p O)
  | [], q, O => rfl
  | c :: t, q, O => pops_app t q ((c, 0) :: O)
section rl2
variable {Θ : Th} {d : Nat} {σ : Mem} {Q : Po} {b : Nat → Nat} {n : Nat} {law : Bool} {W : List Nat} {O : List (Nat × Nat)} {u : Nat}
theorem lsg (hn : n ≤ 1300) (hb : ∀ i, b i < 256) (j c : Nat) (h : 40 ≤ c) (h' : c < 256) : nI (srt (tok b n law j)) = nI c ↔ ((tok b n law j).1 = 3 ∧ (tok b n law j).2.2 = c) := by
  rw [← srt_c (law := law) hn j h]
  exact nI_eq (by have := srt_lt (law := law) hn hb j; omega) (by omega)
theorem c261s {j : Nat} (hn : n ≤ 1300) (hb : ∀ i, b i < 256) (h : TkR b n law j σ)
    (K1 : ¬ ((tok b n law j).1 = 3 ∧ (tok b n law j).2.2 = 41) → G Θ (d + 1) 261 163 [some (.ref 124), some (.int (match sgA (tok b n law j) with | none => -1 | some o => nI (rcd o)))] [] σ Q)
    (K2 : (tok b n law j).1 = 3 ∧ (tok b n law j).2.2 = 41 → Ci Θ d 256 [.ref 124] σ (fun v12 σ12 => ((v12 = 0 → G Θ (d + 1) 261 163 [some (.ref 124), some (.int (-1))] [] σ12 Q) ∧ (¬ v12 = 0 → Cv Θ d 255 [.ref 124, .int 0] σ12 (fun σ14 => Cv Θ d 175 [.ref 124] (sI (sI σ14 124 72 ((σ14.1 124 72) - 1)) 124 73 (((sI σ14 124 72 ((σ14.1 124 72) - 1)).1 124 73) - 1)) (fun σ15 => Q (some (.int 2)) σ15)))))) : G Θ (d + 1) 261 0 [some (.ref 124), none] [] σ Q := by
  have l43 : nI (srt (tok b n law j)) = 43 ↔ _ := lsg hn hb j 43 (by omega) (by omega)
  have l45 : nI (srt (tok b n law j)) = 45 ↔ _ := lsg hn hb j 45 (by omega) (by omega)
  have l42 : nI (srt (tok b n law j)) = 42 ↔ _ := lsg hn hb j 42 (by omega) (by omega)
  have l61 : nI (srt (tok b n law j)) = 61 ↔ _ := lsg hn hb j 61 (by omega) (by omega)
  have l60 : nI (srt (tok b n law j)) = 60 ↔ _ := lsg hn hb j 60 (by omega) (by omega)
  have l62 : nI (srt (tok b n law j)) = 62 ↔ _ := lsg hn hb j 62 (by omega) (by omega)
  have l41 : nI (srt (tok b n law j)) = 41 ↔ _ := lsg hn hb j 41 (by omega) (by omega)
  have s1 := (TkR_st h).1
  refine B261_0 ?_
  rw [s1, l43, l45, l42, l61, l60, l62, l41]
  refine ⟨fun n43 => ⟨fun n45 => ⟨fun n42 => ⟨fun n61 => ⟨fun n60 => ⟨fun n62 => ?_, fun y => ?_⟩, fun y => ?_⟩, fun y => ?_⟩, fun y => ?_⟩, fun y => ?_⟩, fun y => ?_⟩
  · rw [w_and]
    refine ci (fun _ => c177 hn hb h (by decide)) ?_
    by_cases qa : (tok b n law j).1 = 1 ∧ (tok b n law j).2.2 = 6385252
    · rw [if_pos qa]
      refine ⟨fun z => absurd z (by decide), fun _ => ?_⟩
      have e : sgA (tok b n law j) = some 8 := by unfold sgA; rw [if_neg n43, if_neg n45, if_neg n42, if_neg n61, if_neg n60, if_neg n62, if_pos qa]
      rw [e] at K1
      rw [s1, l41]
      exact ⟨fun z => K1 z, fun z => by omega⟩
    · rw [if_neg qa]
      refine ⟨fun _ => ?_, fun z => absurd rfl z⟩
      rw [w_or]
      refine ci (fun _ => c177 hn hb h (by decide)) ?_
      by_cases qo : (tok b n law j).1 = 1 ∧ (tok b n law j).2.2 = 28530
      · rw [if_pos qo]
        refine ⟨fun z => absurd z (by decide), fun _ => ?_⟩
        have e : sgA (tok b n law j) = some 7 := by unfold sgA; rw [if_neg n43, if_neg n45, if_neg n42, if_neg n61, if_neg n60, if_neg n62, if_neg qa, if_pos qo]
        rw [e] at K1
        rw [s1, l41]
        exact ⟨fun z => K1 z, fun z => by omega⟩
      · rw [if_neg qo]
        refine ⟨fun _ => ?_, fun z => absurd rfl z⟩
        have e : sgA (tok b n law j) = none := by unfold sgA; rw [if_neg n43, if_neg n45, if_neg n42, if_neg n61, if_neg n60, if_neg n62, if_neg qa, if_neg qo]
        rw [e] at K1
        rw [s1, l41]
        exact ⟨fun z => K1 z, fun z => K2 z⟩
  · have e : sgA (tok b n law j) = some 10 := by unfold sgA; rw [if_neg n43, if_neg n45, if_neg n42, if_neg n61, if_neg n60, if_pos y]
    rw [e] at K1
    exact ⟨fun z => K1 z, fun z => by omega⟩
  · have e : sgA (tok b n law j) = some 9 := by unfold sgA; rw [if_neg n43, if_neg n45, if_neg n42, if_neg n61, if_pos y]
    rw [e] at K1
    exact ⟨fun z => K1 z, fun z => by omega⟩
  · have e : sgA (tok b n law j) = some 11 := by unfold sgA; rw [if_neg n43, if_neg n45, if_neg n42, if_pos y]
    rw [e] at K1
    exact ⟨fun z => K1 z, fun z => by omega⟩
  · have e : sgA (tok b n law j) = some 14 := by unfold sgA; rw [if_neg n43, if_neg n45, if_pos y]
    rw [e] at K1
    exact ⟨fun z => K1 z, fun z => by omega⟩
  · have e : sgA (tok b n law j) = some 13 := by unfold sgA; rw [if_neg n43, if_pos y]
    rw [e] at K1
    exact ⟨fun z => K1 z, fun z => by omega⟩
  · have e : sgA (tok b n law j) = some 12 := by unfold sgA; rw [if_pos y]
    rw [e] at K1
    exact ⟨fun z => K1 z, fun z => by omega⟩
/-- no sign that can stand -/
theorem c261n {j : Nat} (hn : n ≤ 1300) (hb : ∀ i, b i < 256) (h : TkR b n law j σ) (K : ∀ s, FrT σ s → FaR (flt 2 (tok b n law j)) s → Q (some (.int 2)) s) : G Θ (d + 1) 261 163 [some (.ref 124), some (.int (-1))] [] σ Q :=
  B261_163 ⟨fun z => absurd z (by decide), fun _ => c176 (f := 2) hn hb h (by omega) (by omega) fun s f t => ⟨rfl, K s f t⟩⟩
theorem rkn_o {o : Nat} (h : 7 ≤ o ∧ o ≤ 14) : (rkn (rcd o) = 23 ↔ 9 ≤ o ∧ o ≤ 11) ∧ rkn (rcd o) ≤ 30 ∧ rcd o ≤ 28 ∧ (rcd o = 21 ↔ o = 8) ∧ (rcd o = 20 ↔ o = 7) := by
  have : ∀ x : Fin 15, 7 ≤ x.val → (rkn (rcd x.val) = 23 ↔ 9 ≤ x.val ∧ x.val ≤ 11) ∧ rkn (rcd x.val) ≤ 30 ∧ rcd x.val ≤ 28 ∧ (rcd x.val = 21 ↔ x.val = 8) ∧ (rcd x.val = 20 ↔ x.val = 7) := by decide +kernel
  exact this ⟨o, by omega⟩ h.1
/-- a sign that joins -/
theorem c261j {j o a : Nat} {pend W0 : List Nat} (hn : n ≤ 1300) (hb : ∀ i, b i < 256) (h : TkR b n law j σ) (h4 : (tok b n law j).1 ≠ 4) (ho : 7 ≤ o ∧ o ≤ 14) (ha : a = if 9 ≤ o ∧ o ≤ 11 then 26 else rkn (rcd o)) (hW : WOk (pend ++ W0)) (hp : ∀ c, c ∈ pend → c ≠ 15 ∧ a ≤ rcd c) (hs : upW W0 = 30 ∨ upW W0 < a) (hR : RsW (pend ++ W0) O u σ) (hl : (pend ++ W0).length + O.length < 599)
    (K : ¬ (9 ≤ o ∧ o ≤ 11) ∨ rkn (upW W0) ≠ 23 → ∀ s, FrE σ s → RsW (o :: W0) (pops pend O) u s → TkR b n law (j + 1) s → Q (some (.int (if o = 7 ∨ o = 8 then 0 else 1))) s)
    (KE : 9 ≤ o ∧ o ≤ 11 → rkn (upW W0) = 23 → ∀ s, FrE σ s → FaR (flt 2 (tok b n law j)) s → Q (some (.int 2)) s) : G Θ (d + 2 + 1) 261 163 [some (.ref 124), some (.int (nI (rcd o)))] [] σ Q := by
  obtain ⟨o1, o2, o3, o4, o5⟩ := rkn_o ho
  have hW0 : WOk W0 := fun c hc => hW c (by simp [hc])
  have hl0 : W0.length < 599 := by rw [List.length_append] at hl; omega
  have l23 : nI (rkn (rcd o)) = 23 ↔ (9 ≤ o ∧ o ≤ 11) := by rw [← o1]; exact nI_eq (b := 23) (by omega) (by omega)
  have l21 : nI (rcd o) = 21 ↔ o = 8 := by rw [← o4]; exact nI_eq (b := 21) (by omega) (by omega)
  have l20 : nI (rcd o) = 20 ↔ o = 7 := by rw [← o5]; exact nI_eq (b := 20) (by omega) (by omega)
  -- hold it
  have fin : (¬ (9 ≤ o ∧ o ≤ 11) ∨ rkn (upW W0) ≠ 23) → ∀ s, WrE σ s → RsW W0 (pops pend O) u s → G Θ (d + 2 + 1) 261 217 [some (.ref 124), some (.int (nI (rcd o)))] [] s Q := fun hc s f hR' => by
    have t1 := TkR_W h f
    refine B261_217 ⟨fun _ => ?_, fun z => absurd (TkR_0 t1).1 z⟩
    refine c253 (c := o) (by omega) hR' (by omega) fun s2 f2 hR2 => ⟨rfl, ?_⟩
    refine c175n (d := d + 1) hn hb (TkR_W t1 f2) h4 fun s3 f3 t3 => ⟨rfl, ?_⟩
    have F := frE_tr (frE_W (wrE_tr f f2)) (frE_T f3)
    have k := K hc s3 F (RsW_T hR2 f3) t3
    try dsimp only
    rw [l21, l20]
    refine ⟨fun z => B261_247 ?_, fun z => ⟨fun y => ?_, fun y => B261_247 ?_⟩⟩
    · rw [if_pos (Or.inr z)] at k; exact k
    · rw [if_neg (by omega)] at k; exact k
    · rw [if_pos (Or.inl y)] at k; exact k
  refine B261_163 ⟨fun _ => ?_, fun z => absurd (nI_le (a := 0) (Nat.zero_le (rcd o)) (by omega)) z⟩
  refine c257 (v := rcd o) (by omega) ⟨_, rfl, ?_⟩
  try dsimp only
  rw [l23]
  refine ⟨fun z => ?_, fun z => ?_⟩
  · rw [if_neg z] at ha
    refine c257 (v := rcd o) (by omega) ⟨_, rfl, ?_⟩
    try dsimp only
    rw [← ha]
    exact K255 (c255 (d := d) (by omega) pend W0 O σ hW hp hs hR (by omega) fun s f hR' => ⟨rfl, fin (Or.inl z) s f hR'⟩)
  · rw [if_pos z] at ha
    subst ha
    refine K255 (c255 (d := d) (l := 26) (by omega) pend W0 O σ hW hp hs hR (by omega) fun s f hR' => ⟨rfl, ?_⟩)
    refine c252 hR' (by omega) ⟨_, rfl, ?_⟩
    have hu := upW_b hW0
    refine c257 (v := upW W0) (by omega) ⟨_, rfl, ?_⟩
    have rb : rkn (upW W0) < 100 := by unfold rkn; split <;> (try split) <;> omega
    have l23' : nI (rkn (upW W0)) = 23 ↔ rkn (upW W0) = 23 := nI_eq (b := 23) (by omega) (by omega)
    try dsimp only
    rw [l23']
    refine ⟨fun y => fin (Or.inr y) s f hR', fun y => ?_⟩
    refine c176 (f := 2) hn hb (TkR_W h f) (by omega) (by omega) fun s2 f2 t2 => ⟨rfl, B261_217 ⟨fun x => absurd x (FaR_n t2).1, fun _ => KE z y s2 (frE_tr (frE_W f) (frE_T f2)) t2⟩⟩
/-- the bracket that closes -/
theorem c261c {j : Nat} {pend W0 : List Nat} (hn : n ≤ 1300) (hb : ∀ i, b i < 256) (h : TkR b n law j σ) (ht : (tok b n law j).1 = 3 ∧ (tok b n law j).2.2 = 41) (hW : WOk (pend ++ 15 :: W0)) (hp : ∀ c, c ∈ pend → c ≠ 15) (hR : RsW (pend ++ 15 :: W0) O u σ) (hl : (pend ++ 15 :: W0).length + O.length < 600)
    (K : ∀ s, FrE σ s → RsW W0 (pops pend O) u s → TkR b n law (j + 1) s → Q (some (.int 2)) s) : Cm Θ (d + 2 + 1) 261 [.ref 124] σ Q := by
  refine K261 (c261s hn hb h (fun z => absurd ht z) fun _ => ?_)
  have ho : opn (pend ++ 15 :: W0) = true := opn_iff.mpr (by simp)
  refine c256 hW hR (by omega) ⟨_, rfl, fun z => ?_, fun _ => ?_⟩
  · rw [ho] at z; exact absurd z (by decide)
  refine K255 (c255 (d := d) (l := 0) (by omega) pend (15 :: W0) O σ hW (fun c hc => ⟨hp c hc, Nat.zero_le _⟩) (Or.inl rfl) hR hl fun s f hR' => ⟨rfl, ?_⟩)
  obtain ⟨⟨a1, a2, a3⟩, b1, b2, b3⟩ := hR'
  try dsimp only
  have e1 : s.1 124 72 - 1 = nI W0.length := by rw [a1, show (15 :: W0).length = W0.length + 1 from rfl, nI_pred]
  rw [e1]
  have e2 : (sI s 124 72 (nI W0.length)).1 124 73 - 1 = nI (dpW W0) := by
    rw [sI_of _ _ (by omega), a2]
    show nI (dpW W0 + (if 15 = 6 ∨ 15 = 15 then 1 else 0)) - 1 = _
    rw [if_pos (Or.inr rfl), nI_pred]
  rw [e2]
  obtain ⟨s2, hs2⟩ : ∃ s2, s2 = sI (sI s 124 72 (nI W0.length)) 124 73 (nI (dpW W0)) := ⟨_, rfl⟩
  rw [← hs2]
  have W2 : WrE s s2 := by rw [hs2]; exact ⟨(Fr.rfl.I (by decide)).I (by decide), fun z z1 z2 z3 z4 => by rw [sI_of _ _ (by omega), sI_of _ _ (by omega)], rfl⟩
  have hR2 : RsW W0 (pops pend O) u s2 := by
    have ox : ∀ x, x ≠ 124 → s2.1 x = s.1 x := fun x hx => by rw [hs2, sI_ne hx, sI_ne hx]
    refine ⟨⟨?_, ?_, rwW_fr (ox 171 (by decide)) a3.2⟩, ?_, ?_, rwR_fr (ox 161 (by decide)) (ox 162 (by decide)) b3⟩
    · rw [hs2, sI_of _ _ (by omega), sI_at]
    · rw [hs2, sI_at]
    · rw [hs2, sI_of _ _ (by omega), sI_of _ _ (by omega)]; exact b1
    · rw [hs2, sI_of _ _ (by omega), sI_of _ _ (by omega)]; exact b2
  refine c175n (d := d + 1) hn hb (TkR_W (TkR_W h f) W2) (by omega) fun s3 f3 t3 => ⟨rfl, K s3 (frE_tr (frE_W (wrE_tr f W2)) (frE_T f3)) (RsW_T hR2 f3) t3⟩
/-! operands -/
theorem c260x {e : Fa} {x1 x2 x3 x4 : Int32} (t : FaR e σ) (K : Q (some (.int x1)) σ) : G Θ (d + 1) 260 134 [some (.ref 124), some (.int x1), some (.int x2), some (.int x3), some (.int x4), none] [] σ Q :=
  B260_134 ⟨fun z => absurd z (FaR_n t).1, fun _ => K⟩
theorem c260w {j : Nat} {x1 x2 x3 x4 : Int32} (hn : n ≤ 1300) (hb : ∀ i, b i < 256) (h : TkR b n law j σ) (K : ∀ s, FrT σ s → FaR (flt 2 (tok b n law j)) s → Q (some (.int x1)) s) : G Θ (d + 1) 260 109 [some (.ref 124), some (.int x1), some (.int x2), some (.int x3), some (.int x4), none] [] σ Q :=
  B260_109 (c176 (f := 2) hn hb h (by omega) (by omega) fun s f t => ⟨rfl, c260x t (K s f t)⟩)
theorem isNm_w {t : Tk} (k : Nat) (hk : k < 16) (h : t.2.2 = nmL.getD k 0) : isNm t = false := isNm_no hk h
theorem l_srt (hn : n ≤ 1300) (hb : ∀ i, b i < 256) (j k : Nat) (hk : k ≤ 2) : nI (srt (tok b n law j)) = nI k ↔ (tok b n law j).1 = k := by
  rw [← srt_k (law := law) (b := b) hn j hk]
  exact nI_eq (by have := srt_lt (law := law) hn hb j; omega) (by omega)
theorem c260n {j : Nat} (hn : n ≤ 1300) (hb : ∀ i, b i < 256) (h : TkR b n law j σ) (ht : (tok b n law j).1 = 1 ∧ (tok b n law j).2.2 = 7237492) (hR : RsW W O u σ) (hl : W.length < 600)
    (KE : 7 ≤ dpW W → ∀ s, FrT σ s → FaR (flt 2 (tok b n law j)) s → Q (some (.int 0)) s)
    (K : dpW W < 7 → ∀ s, FrE σ s → RsW (6 :: W) O u s → TkR b n law (j + 1) s → Q (some (.int 0)) s) : Cm Θ (d + 2) 260 [.ref 124, .int 0] σ Q := by
  have l2 : nI (srt (tok b n law j)) = 2 ↔ _ := l_srt hn hb j 2 (by omega)
  have l40 : nI (srt (tok b n law j)) = 40 ↔ _ := lsg hn hb j 40 (by omega) (by omega)
  have s1 := (TkR_st h).1
  have ef : fct (tok b n law j) = none := by unfold fct; rw [if_neg (by omega), if_neg (by omega), if_neg (by omega), if_neg (by omega)]
  have en : isNm (tok b n law j) = false := isNm_no (k := 15) (by omega) (by rw [ht.2]; decide +kernel)
  have hd := dpW_le W
  refine K260 (B260_0 ⟨fun z => absurd rfl z, fun _ => ?_⟩)
  rw [w_not]
  refine ci (fun _ => c177 hn hb h (by decide)) ?_
  rw [if_pos ht]
  refine ⟨fun z => absurd z (by decide), fun _ => ?_⟩
  refine c258 (d := d) hn hb h ⟨_, rfl, ?_⟩
  rw [ef]
  refine ci (fun _ => c178 (d := d) hn hb h) ?_
  rw [en, s1, l2, l40]
  refine ⟨fun z => by omega, fun _ => ⟨fun z => by omega, fun _ => ⟨fun z => absurd z (by decide), fun _ => ⟨fun _ => ?_, fun z => absurd rfl z⟩⟩⟩⟩
  refine B260_73 ⟨fun _ => B260_87 ⟨fun _ => B260_100 ?_, fun z => absurd z (by decide)⟩, fun z => absurd rfl z⟩
  have l7 : nI (dpW W) < 7 ↔ dpW W < 7 := nI_ltI (b := 7) (by omega) (by omega)
  rw [hR.1.2.1, l7]
  refine ⟨fun z => B260_117 ⟨fun _ => B260_134 ⟨fun _ => ⟨fun y => absurd y (by decide), fun _ => ?_⟩, fun y => absurd (TkR_0 h).1 y⟩, fun y => absurd rfl y⟩, fun z => c260w hn hb h fun s f t => KE (by omega) s f t⟩
  refine c253 (c := 6) (by omega) hR hl fun s f hR' => ⟨rfl, ?_⟩
  exact c175n (d := d) hn hb (TkR_W h f) (by omega) fun s2 f2 t2 => ⟨rfl, K z s2 (frE_tr (frE_W f) (frE_T f2)) (RsW_T hR' f2) t2⟩
/-- to the place where a unit is looked at -/
theorem c260_0 {j : Nat} {now : Nat} (hnow : now = 0 ∨ now = 1) (hn : n ≤ 1300) (hb : ∀ i, b i < 256) (h : TkR b n law j σ) (ht : now = 0 → ¬ ((tok b n law j).1 = 1 ∧ (tok b n law j).2.2 = 7237492)) (K : G Θ (d + 1) 260 18 [some (.ref 124), some (.int (nI now)), none, none, none, none] [] σ Q) : Cm Θ (d + 1) 260 [.ref 124, .int (nI now)] σ Q := by
  refine K260 (B260_0 ⟨fun _ => K, fun z => ?_⟩)
  have hz : now = 0 := (nI_eq (b := 0) (by omega) (by omega)).mp z
  rw [w_not]
  refine ci (fun _ => c177 hn hb h (by decide)) ?_
  rw [if_neg (ht hz)]
  exact ⟨fun _ => K, fun y => absurd rfl y⟩
theorem RsW_u {s : Mem} (hR : RsW W O u σ) (hs : s = sI σ 124 71 (nI (u + 1))) : RsW W O (u + 1) s ∧ WrE σ s := by
  obtain ⟨⟨a1, a2, a3⟩, b1, b2, b3⟩ := hR
  have ox : ∀ x, x ≠ 124 → s.1 x = σ.1 x := fun x hx => by rw [hs, sI_ne hx]
  refine ⟨⟨⟨?_, ?_, rwW_fr (ox 171 (by decide)) a3⟩, ?_, ?_, rwR_fr (ox 161 (by decide)) (ox 162 (by decide)) b3⟩, ?_⟩
  · rw [hs, sI_of _ _ (by omega)]; exact a1
  · rw [hs, sI_of _ _ (by omega)]; exact a2
  · rw [hs, sI_of _ _ (by omega)]; exact b1
  · rw [hs, sI_at]
  · rw [hs]; exact ⟨Fr.rfl.I (by decide), fun z z1 z2 z3 z4 => sI_of _ _ (by omega), rfl⟩
theorem c260p {j now : Nat} (hnow : now = 0 ∨ now = 1) (hn : n ≤ 1300) (hb : ∀ i, b i < 256) (h : TkR b n law j σ) (ht : (tok b n law j).1 = 3 ∧ (tok b n law j).2.2 = 40) (hR : RsW W O u σ) (hl : W.length < 600) (hu : u ≤ 50)
    (KE : 50 ≤ u ∨ 7 ≤ dpW W → ∀ s, FrT σ s → FaR (flt 2 (tok b n law j)) s → Q (some (.int (nI now))) s)
    (K : u < 50 → dpW W < 7 → ∀ s, FrE σ s → RsW (15 :: W) O (u + 1) s → TkR b n law (j + 1) s → Q (some (.int 0)) s) : Cm Θ (d + 2) 260 [.ref 124, .int (nI now)] σ Q := by
  have l2 : nI (srt (tok b n law j)) = 2 ↔ _ := l_srt hn hb j 2 (by omega)
  have l40 : nI (srt (tok b n law j)) = 40 ↔ _ := lsg hn hb j 40 (by omega) (by omega)
  have s1 := (TkR_st h).1
  have ef : fct (tok b n law j) = none := by unfold fct; rw [if_neg (by omega), if_neg (by omega), if_neg (by omega), if_neg (by omega)]
  have en : isNm (tok b n law j) = false := by unfold isNm; rw [decide_eq_false (by omega)]; rfl
  have hd := dpW_le W
  have l7 : nI (dpW W) < 7 ↔ dpW W < 7 := nI_ltI (b := 7) (by omega) (by omega)
  have l50 : nI u = 50 ↔ u = 50 := nI_eq (b := 50) (by omega) (by omega)
  refine c260_0 (d := d + 1) hnow hn hb h (fun _ => by omega) ?_
  refine B260_18 (c258 (d := d) hn hb h ⟨_, rfl, ?_⟩)
  rw [ef]
  refine ci (fun _ => c178 (d := d) hn hb h) ?_
  rw [en, s1, l2, l40]
  refine ⟨fun z => by omega, fun _ => ⟨fun _ => ?_, fun z => absurd ht z⟩⟩
  refine B260_57 ⟨fun z => absurd rfl z, fun _ => B260_73 ⟨fun z => absurd z (by decide), fun _ => ?_⟩⟩
  rw [hR.2.2.1, l50]
  refine ⟨fun z => c260w hn hb h fun s f t => KE (Or.inl (by omega)) s f t, fun z => B260_87 ⟨fun y => absurd rfl y, fun _ => ?_⟩⟩
  rw [s1, l40]
  refine ⟨fun y => absurd ht y, fun _ => B260_100 ?_⟩
  rw [hR.1.2.1, l7]
  refine ⟨fun y => B260_117 ⟨fun _ => B260_134 ⟨fun _ => ⟨fun _ => ?_, fun x => absurd rfl x⟩, fun x => absurd (TkR_0 h).1 x⟩, fun x => absurd rfl x⟩, fun y => c260w hn hb h fun s f t => KE (Or.inr (by omega)) s f t⟩
  rw [hR.2.2.1, nI_1]
  obtain ⟨s2, hs2⟩ : ∃ s2, s2 = sI σ 124 71 (nI (u + 1)) := ⟨_, rfl⟩
  rw [← hs2]
  obtain ⟨hR2, W2⟩ := RsW_u hR hs2
  have t2 := TkR_W h W2
  rw [(TkR_st t2).1, l40]
  refine ⟨fun x => absurd ht x, fun _ => ?_⟩
  refine c253 (c := 15) (by omega) hR2 hl fun s f hR' => ⟨rfl, ?_⟩
  exact c175n (d := d) hn hb (TkR_W t2 f) (by omega) fun s3 f3 t3 => ⟨rfl, K (by omega) y s3 (frE_tr (frE_W (wrE_tr W2 f)) (frE_T f3)) (RsW_T hR' f3) t3⟩
theorem c260u {j now mk : Nat} {nm : Nat → Nat} (hnow : now = 0 ∨ now = 1) (hn : n ≤ 1300) (hb : ∀ i, b i < 256) (h : TkR b n law j σ) (ht : now = 0 → ¬ ((tok b n law j).1 = 1 ∧ (tok b n law j).2.2 = 7237492)) (ht2 : ¬ ((tok b n law j).1 = 3 ∧ (tok b n law j).2.2 = 40)) (hR : RsW W O u σ) (hl : ∀ x, rUn (tok b n law) mk nm j = .ok x → O.length < 600) (hu : u ≤ 50) (hM : MkR mk nm σ)
    (KE : ∀ e s, (if 50 ≤ u then .error (flt 2 (tok b n law j)) else rUn (tok b n law) mk nm j) = .error e → FrT σ s → FaR e s → Q (some (.int (nI now))) s)
    (K : ∀ x s, u < 50 → rUn (tok b n law) mk nm j = .ok x → FrE σ s → RsW W (x :: O) (u + 1) s → TkR b n law (j + 1) s → Q (some (.int 2)) s) : Cm Θ (d + 2) 260 [.ref 124, .int (nI now)] σ Q := by
  have l2 : nI (srt (tok b n law j)) = 2 ↔ _ := l_srt hn hb j 2 (by omega)
  have l40 : nI (srt (tok b n law j)) = 40 ↔ _ := lsg hn hb j 40 (by omega) (by omega)
  have s1 := (TkR_st h).1
  have bv := tok_v (law := law) hn hb j
  have l50 : nI u = 50 ↔ u = 50 := nI_eq (b := 50) (by omega) (by omega)
  obtain ⟨nmi, hnmi⟩ : ∃ x : Int32, x = (if isNm (tok b n law j) then 1 else 0) := ⟨_, rfl⟩
  obtain ⟨fi, hfi⟩ : ∃ x : Int32, x = rsO (fct (tok b n law j)) := ⟨_, rfl⟩
  refine c260_0 (d := d + 1) hnow hn hb h ht ?_
  refine B260_18 (c258 (d := d) hn hb h ⟨_, rfl, ?_⟩)
  rw [← hfi]
  refine ci (fun _ => c178 (d := d) hn hb h) ?_
  rw [← hnmi, s1, l2, l40]
  -- a unit stands here
  have unit : (rUn (tok b n law) mk nm j ≠ .error (flt 2 (tok b n law j)) ∨ (tok b n law j).1 = 2 ∨ isNm (tok b n law j) = true ∨ fct (tok b n law j) ≠ none) → ((tok b n law j).1 = 2 ∨ isNm (tok b n law j) = true ∨ fct (tok b n law j) ≠ none) → G Θ (d + 1 + 1) 260 57 [some (.ref 124), some (.int (nI now)), some (.int 0), some (.int fi), some (.int nmi), none] [] σ Q := fun _ hu' => by
    refine B260_57 ⟨fun z => absurd rfl z, fun _ => B260_73 ⟨fun z => absurd z (by decide), fun _ => ?_⟩⟩
    rw [hR.2.2.1, l50]
    refine ⟨fun z => c260w hn hb h fun s f t => KE _ s (if_pos (by omega)) f t, fun z => B260_87 ⟨fun y => absurd rfl y, fun _ => ?_⟩⟩
    rw [if_neg (by omega)] at KE
    rw [s1, l40]
    refine ⟨fun _ => ?_, fun y => absurd y ht2⟩
    obtain ⟨s2, hs2⟩ : ∃ s2, s2 = sI σ 124 71 (nI (u + 1)) := ⟨_, rfl⟩
    obtain ⟨hR2, W2⟩ := RsW_u hR hs2
    have t2 := TkR_W h W2
    have M2 := MkR_E hM (frE_W W2)
    have put : ∀ (x : Nat × Nat) (y : Int32), rUn (tok b n law) mk nm j = .ok x → (x.1 ≤ 1 → y = nI x.2) → Cv Θ (d + 1) 251 [.ref 124, .int (nI (rcd x.1)), .int y] s2 (fun σ7 => Cv Θ (d + 1) 175 [.ref 124] σ7 (fun σ8 => Q (some (.int 2)) σ8)) := fun x y hx hy => by
      have h4 : (tok b n law j).1 ≠ 4 := by
        rcases hu' with q | q | q
        · omega
        · have := isNm_1 q; omega
        · cases e : fct (tok b n law j) with
          | none => exact absurd e q
          | some f => have := fct_1 e; omega
      refine c251 hR2 (hl x hx) hy fun s f hR' => ⟨rfl, ?_⟩
      exact c175n (d := d) hn hb (TkR_W t2 f) h4 fun s3 f3 t3 => ⟨rfl, K x s3 (by omega) hx (frE_tr (frE_W (wrE_tr W2 f)) (frE_T f3)) (RsW_T hR' f3) t3⟩
    by_cases qn : isNm (tok b n law j) = true
    · rw [if_pos qn] at hnmi
      have q1 := isNm_1 qn
      have hw := (TkR_st h).2.2.1 q1
      have hlt := bv.2.1 (by omega)
      refine B260_117 ⟨fun y => absurd y (by rw [hnmi]; decide), fun _ => ?_⟩
      refine c259 hM hw hlt ⟨_, rfl, ?_⟩
      cases e : fdN nm (tok b n law j).2.2 mk with
      | none =>
        refine ⟨fun y => absurd y (by decide), fun _ => ?_⟩
        refine c176 (f := 5) hn hb h (by omega) (by omega) fun s f t => ⟨rfl, c260x t (KE _ s ?_ f t)⟩
        unfold rUn; rw [if_neg (by omega), if_pos qn, e]
      | some m =>
        have hm6 := (fdN_lt e).1
        have := hM.2.1
        refine ⟨fun _ => B260_134 ⟨fun _ => ⟨fun _ => ?_, fun y => absurd rfl y⟩, fun y => absurd (TkR_0 h).1 y⟩, fun y => absurd (nI_le (a := 0) (Nat.zero_le m) (by omega)) y⟩
        rw [hR.2.2.1, nI_1, ← hs2, (TkR_st t2).1, l40]
        refine ⟨fun _ => ⟨fun y => absurd y (by rw [hnmi]; decide), fun _ => ⟨fun y => absurd y (by rw [hnmi]; decide), fun _ => ?_⟩⟩, fun y => absurd y ht2⟩
        refine c259 M2 ((TkR_st t2).2.2.1 q1) hlt ⟨_, rfl, ?_⟩
        rw [e]
        exact put (1, m) (nI m) (by unfold rUn; rw [if_neg (by omega), if_pos qn, e]) fun _ => rfl
    · rw [if_neg qn] at hnmi
      refine B260_117 ⟨fun _ => B260_134 ⟨fun _ => ⟨fun _ => ?_, fun y => absurd rfl y⟩, fun y => absurd (TkR_0 h).1 y⟩, fun y => absurd hnmi y⟩
      rw [hR.2.2.1, nI_1, ← hs2, (TkR_st t2).1, l40]
      refine ⟨fun _ => ⟨fun _ => ⟨fun y => ⟨fun _ => ?_, fun x => absurd hnmi x⟩, fun y => ⟨fun _ => ?_, fun x => absurd hnmi x⟩⟩, fun x => absurd hnmi x⟩, fun y => absurd y ht2⟩
      · cases e : fct (tok b n law j) with
        | none => rw [hfi, e] at y; exact absurd y (by decide)
        | some f =>
          have hf := fct_b e
          have h1 := fct_1 e
          rw [hfi, e]
          have er : rcd f = f := by
            have : ∀ x : Fin 6, rcd x.val = x.val := by decide +kernel
            exact this ⟨f, by omega⟩
          have := put (f, 0) ((sI σ 124 71 (nI (u + 1))).1 124 8) (by unfold rUn; rw [if_neg (by omega), if_neg qn, e]) fun z => by have z : f ≤ 1 := z; omega
          rw [show rcd (f, 0).1 = f from er, ← hs2] at this
          exact this
      · have h2 : (tok b n law j).1 = 2 := by
          rcases hu' with q | q | q
          · exact q
          · exact absurd q qn
          · refine absurd ?_ y
            cases e : fct (tok b n law j) with
            | none => exact absurd e q
            | some f => rw [hfi, e]; exact nI_le (a := 0) (Nat.zero_le f) (by have := fct_b e; omega)
        exact put (0, (tok b n law j).2.2) (s2.1 124 8) (if_pos h2) fun _ => (TkR_st t2).2.2.2.1 h2
  refine ⟨fun z => unit (Or.inr (Or.inl z)) (Or.inl z), fun z => ⟨fun y => absurd y ht2, fun _ => ⟨fun y => ?_, fun y => ⟨fun x => ?_, fun x => ?_⟩⟩⟩⟩
  · have : fct (tok b n law j) ≠ none := fun e => by rw [hfi, e] at y; exact absurd y (by decide)
    exact unit (Or.inr (Or.inr (Or.inr this))) (Or.inr (Or.inr this))
  · have qn : ¬ isNm (tok b n law j) = true := fun e => by rw [hnmi, if_pos e] at x; exact absurd x (by decide)
    have ef : fct (tok b n law j) = none := by
      cases e : fct (tok b n law j) with
      | none => rfl
      | some f => rw [hfi, e] at y; exact absurd (nI_le (a := 0) (Nat.zero_le f) (by have := fct_b e; omega)) y
    refine c260w hn hb h fun s f t => KE _ s ?_ f t
    by_cases q5 : 50 ≤ u
    · rw [if_pos q5]
    · rw [if_neg q5]; unfold rUn; rw [if_neg z, if_neg qn, ef]
  · have qn : isNm (tok b n law j) = true := by
      cases e : isNm (tok b n law j) with
      | true => rfl
      | false => rw [hnmi, e] at x; exact absurd rfl x
    exact unit (Or.inr (Or.inr (Or.inl qn))) (Or.inr (Or.inl qn))
end rl2
