/-! CONTRACTS: the reference reads a laws' text: what waits, what is noted -/
def rcd (c : Nat) : Nat := if c = 6 then 22 else if c = 7 then 20 else if c = 8 then 21 else if c = 9 then 24 else if c = 10 then 25 else if c = 11 then 23 else if c = 12 then 26 else if c = 13 then 27 else if c = 14 then 28 else if c = 15 then 30 else c
theorem rcd_b {c : Nat} (h : 6 ≤ c ∧ c ≤ 15) : 20 ≤ rcd c ∧ rcd c ≤ 30 ∧ (rcd c = 30 ↔ c = 15) ∧ (rcd c = 22 ↔ c = 6) := by
  have : ∀ x : Fin 16, 6 ≤ x.val → 20 ≤ rcd x.val ∧ rcd x.val ≤ 30 ∧ (rcd x.val = 30 ↔ x.val = 15) ∧ (rcd x.val = 22 ↔ x.val = 6) := by decide +kernel
  exact this ⟨c, by omega⟩ h.1
def rwW : List Nat → Mem → Prop
  | [], _ => True
  | c :: t, σ => σ.1 171 t.length = nI (rcd c) ∧ rwW t σ
def rwR : List (Nat × Nat) → Mem → Prop
  | [], _ => True
  | x :: t, σ => (σ.1 161 t.length = nI (rcd x.1) ∧ (x.1 ≤ 1 → σ.1 162 t.length = nI x.2)) ∧ rwR t σ
def dpW : List Nat → Nat
  | [] => 0
  | c :: t => dpW t + (if c = 6 ∨ c = 15 then 1 else 0)
def upW : List Nat → Nat
  | [] => 30
  | c :: _ => rcd c
def pops : List Nat → List (Nat × Nat) → List (Nat × Nat)
  | [], o => o
  | c :: t, o => pops t ((c, 0) :: o)
def WOk (W : List Nat) : Prop := ∀ c, c ∈ W → 6 ≤ c ∧ c ≤ 15
def RsW (W : List Nat) (O : List (Nat × Nat)) (u : Nat) (σ : Mem) : Prop :=
  (σ.1 124 72 = nI W.length ∧ σ.1 124 73 = nI (dpW W) ∧ rwW W σ) ∧ (σ.1 124 68 = nI O.length ∧ σ.1 124 71 = nI u ∧ rwR O σ)
/-- what the writes of reading an expression leave -/
def WrE (σ s : Mem) : Prop := Fr [124, 161, 162, 171] σ s ∧ (∀ y, y ≠ 68 → y ≠ 71 → y ≠ 72 → y ≠ 73 → s.1 124 y = σ.1 124 y) ∧ s.2 = σ.2
theorem wrE_rfl {σ : Mem} : WrE σ σ := ⟨Fr.rfl, fun _ _ _ _ _ => rfl, rfl⟩
theorem wrE_tr {σ σ' σ'' : Mem} (h : WrE σ σ') (h' : WrE σ' σ'') : WrE σ σ'' := ⟨h.1.tr h'.1, fun y a c e f => (h'.2.1 y a c e f).trans (h.2.1 y a c e f), h'.2.2.trans h.2.2⟩
def FrE (σ s : Mem) : Prop := Fr [124, 161, 162, 171] σ s ∧ (∀ y, 9 ≤ y → y ≠ 68 → y ≠ 71 → y ≠ 72 → y ≠ 73 → s.1 124 y = σ.1 124 y) ∧ s.1 124 1 = σ.1 124 1 ∧ (∀ y, y ≠ 9 → s.2.1 124 y = σ.2.1 124 y)
theorem frE_rfl {σ : Mem} : FrE σ σ := ⟨Fr.rfl, fun _ _ _ _ _ _ => rfl, rfl, fun _ _ => rfl⟩
theorem frE_tr {σ σ' σ'' : Mem} (h : FrE σ σ') (h' : FrE σ' σ'') : FrE σ σ'' := ⟨h.1.tr h'.1, fun y a c e f g => (h'.2.1 y a c e f g).trans (h.2.1 y a c e f g), h'.2.2.1.trans h.2.2.1, fun y a => (h'.2.2.2 y a).trans (h.2.2.2 y a)⟩
theorem frE_W {σ s : Mem} (h : WrE σ s) : FrE σ s := ⟨h.1, fun y _ a c e f => h.2.1 y a c e f, h.2.1 1 (by decide) (by decide) (by decide) (by decide), fun y _ => by rw [h.2.2]⟩
theorem frE_T {σ s : Mem} (h : FrT σ s) : FrE σ s := ⟨h.1.mono (by intro x hx; simp at hx; subst hx; decide), fun y a _ _ _ _ => h.2.1 y a, h.2.2.1, h.2.2.2.2.1⟩
theorem rwW_fr {σ s : Mem} (e : s.1 171 = σ.1 171) : ∀ {W : List Nat}, rwW W σ → rwW W s
  | [], _ => True.intro
  | c :: t, h => ⟨by rw [e]; exact h.1, rwW_fr e h.2⟩
theorem rwR_fr {σ s : Mem} (e : s.1 161 = σ.1 161) (e' : s.1 162 = σ.1 162) : ∀ {O : List (Nat × Nat)}, rwR O σ → rwR O s
  | [], _ => True.intro
  | x :: t, h => ⟨by rw [e, e']; exact h.1, rwR_fr e e' h.2⟩
theorem RsW_T {W : List Nat} {O : List (Nat × Nat)} {u : Nat} {σ s : Mem} (h : RsW W O u σ) (f : FrT σ s) : RsW W O u s := by
  obtain ⟨⟨a1, a2, a3⟩, b1, b2, b3⟩ := h
  refine ⟨⟨by rw [f.2.1 72 (by omega)]; exact a1, by rw [f.2.1 73 (by omega)]; exact a2, rwW_fr (f.1 171 (by decide)).1 a3⟩, by rw [f.2.1 68 (by omega)]; exact b1, by rw [f.2.1 71 (by omega)]; exact b2, rwR_fr (f.1 161 (by decide)).1 (f.1 162 (by decide)).1 b3⟩
theorem rwW_up {k : Nat} {x : Int32} {σ : Mem} : ∀ {W : List Nat}, W.length ≤ k → rwW W σ → rwW W (sI σ 171 k x)
  | [], _, _ => True.intro
  | c :: t, hl, h => by
    have hl : t.length + 1 ≤ k := hl
    exact ⟨by rw [sI_of _ _ (by omega)]; exact h.1, rwW_up (by omega) h.2⟩
theorem rwR_up {k : Nat} {x y : Int32} {σ : Mem} : ∀ {O : List (Nat × Nat)}, O.length ≤ k → rwR O σ → rwR O (sI (sI σ 161 k x) 162 k y)
  | [], _, _ => True.intro
  | c :: t, hl, h => by
    have hl : t.length + 1 ≤ k := hl
    refine ⟨?_, rwR_up (by omega) h.2⟩
    rw [sI_of _ _ (by omega), sI_of _ _ (by omega), sI_of _ _ (by omega), sI_of _ _ (by omega)]; exact h.1
/-- one that waits, by its place from below -/
def wAt (W : List Nat) (i : Nat) : Nat := W.getD (W.length - 1 - i) 0
theorem rwW_at {σ : Mem} : ∀ {W : List Nat}, rwW W σ → ∀ i, i < W.length → σ.1 171 i = nI (rcd (wAt W i))
  | [], _, i, hi => absurd hi (Nat.not_lt_zero i)
  | c :: t, h, i, hi => by
    have hi : i < t.length + 1 := hi
    unfold wAt
    by_cases z : i = t.length
    · rw [z]
      have : (c :: t).length - 1 - t.length = 0 := by simp
      rw [this]; exact h.1
    · have e : (c :: t).length - 1 - i = (t.length - 1 - i) + 1 := by simp; omega
      rw [e, rwW_at h.2 i (by omega)]; rfl
def opn (W : List Nat) : Bool := exB W.length (fun i => decide (wAt W i = 15))
theorem opn_iff {W : List Nat} : opn W = true ↔ 15 ∈ W := by
  unfold opn
  rw [exB_iff]
  constructor
  · rintro ⟨k, hk, h⟩
    have h := of_decide_eq_true h
    unfold wAt at h
    have hl : W.length - 1 - k < W.length := by omega
    rw [List.getD_eq_getElem?_getD, List.getElem?_eq_getElem hl] at h
    have h : W[W.length - 1 - k] = 15 := h
    rw [← h]; exact List.getElem_mem hl
  · intro h
    obtain ⟨k, hk, e⟩ := List.mem_iff_getElem.mp h
    refine ⟨W.length - 1 - k, by omega, decide_eq_true ?_⟩
    unfold wAt
    rw [show W.length - 1 - (W.length - 1 - k) = k by omega, List.getD_eq_getElem?_getD, List.getElem?_eq_getElem hk]
    exact e
theorem wAt_ok {W : List Nat} (h : WOk W) {i : Nat} (hi : i < W.length) : 6 ≤ wAt W i ∧ wAt W i ≤ 15 := by
  unfold wAt
  have hl : W.length - 1 - i < W.length := by omega
  rw [List.getD_eq_getElem?_getD, List.getElem?_eq_getElem hl]
  exact h _ (List.getElem_mem hl)
def rkn (v : Nat) : Nat := if v = 27 then 26 else if v = 24 ∨ v = 25 then 23 else v
theorem dpW_le : ∀ (W : List Nat), dpW W ≤ W.length
  | [] => Nat.le_refl _
  | c :: t => by
    have := dpW_le t
    show dpW t + (if c = 6 ∨ c = 15 then 1 else 0) ≤ t.length + 1
    split <;> omega
theorem upW_b {W : List Nat} (h : WOk W) : 20 ≤ upW W ∧ upW W ≤ 30 := by
  cases W with
  | nil => exact ⟨by show 20 ≤ 30; omega, Nat.le_refl _⟩
  | cons c t => have := rcd_b (h c (by simp)); exact ⟨this.1, this.2.1⟩
section rlw
variable {Θ : Th} {d : Nat} {σ : Mem} {Q : Po} {b : Nat → Nat} {n : Nat} {law : Bool} {W : List Nat} {O : List (Nat × Nat)} {u : Nat}
theorem TkR_W {j : Nat} {s : Mem} (h : TkR b n law j σ) (f : WrE σ s) : TkR b n law j s :=
  TkR_wr h (fun y hy => f.2.1 y (by omega) (by omega) (by omega) (by omega)) (by rw [f.2.2]) (f.1 125 (by decide)).1
theorem c251 {x : Nat × Nat} {y : Int32} (h : RsW W O u σ) (hl : O.length < 600) (hy : x.1 ≤ 1 → y = nI x.2) (K : ∀ s, WrE σ s → RsW W (x :: O) u s → Q none s) : Cm Θ d 251 [.ref 124, .int (nI (rcd x.1)), .int y] σ Q := by
  obtain ⟨⟨a1, a2, a3⟩, b1, b2, b3⟩ := h
  have vm := vp_in_nI hl (by decide)
  refine K251 (B251_0 ?_)
  have e1 : ∀ v, (sI σ 161 O.length v).1 124 68 = nI O.length := fun v => by rw [sI_of _ _ (by omega)]; exact b1
  have e2 : ∀ v w, (sI (sI σ 161 O.length v) 162 O.length w).1 124 68 = nI O.length := fun v w => by rw [sI_of _ _ (by omega)]; exact e1 v
  rw [b1, nI_clamp (by omega), e1, nI_clamp (by omega), e2, nI_1]
  refine ⟨vm, vm, K _ ⟨((Fr.rfl.I (by decide)).I (by decide)).I (by decide), fun z z1 z2 z3 z4 => ?_, rfl⟩ ⟨⟨?_, ?_, ?_⟩, ?_, ?_, ?_, ?_⟩⟩
  · rw [sI_of _ _ (by omega), sI_of _ _ (by omega), sI_of _ _ (by omega)]
  · rw [sI_of _ _ (by omega), sI_of _ _ (by omega), sI_of _ _ (by omega)]; exact a1
  · rw [sI_of _ _ (by omega), sI_of _ _ (by omega), sI_of _ _ (by omega)]; exact a2
  · exact rwW_fr (by rw [sI_ne (by decide), sI_ne (by decide), sI_ne (by decide)]) a3
  · rw [sI_at]; rfl
  · rw [sI_of _ _ (by omega), sI_of _ _ (by omega), sI_of _ _ (by omega)]; exact b2
  · rw [sI_of _ _ (by omega), sI_of _ _ (by omega), sI_at, sI_of _ _ (by omega), sI_at]; exact ⟨rfl, hy⟩
  · exact rwR_fr (sI_ne (by decide)) (sI_ne (by decide)) (rwR_up (Nat.le_refl _) b3)
theorem c252 (h : RsW W O u σ) (hl : W.length < 600) (K : Q (some (.int (nI (upW W)))) σ) : Cm Θ d 252 [.ref 124] σ Q := by
  obtain ⟨⟨a1, a2, a3⟩, -⟩ := h
  refine K252 (B252_0 ?_)
  have l0 : nI W.length = 0 ↔ W.length = 0 := nI_eq (b := 0) (by omega) (by omega)
  rw [a1, l0]
  cases W with
  | nil => exact ⟨fun z => absurd rfl z, fun _ => K⟩
  | cons c t =>
    have hl : t.length + 1 < 600 := hl
    have e : nI (c :: t).length - 1 = nI t.length := by
      rw [show (c :: t).length = t.length + 1 from rfl, nI_pred]
    rw [e, nI_clamp (by omega), a3.1]
    exact ⟨fun _ => ⟨vp_in_nI (by omega) (by decide), K⟩, fun z => absurd z (by simp)⟩
theorem c253 {c : Nat} (hc : 6 ≤ c ∧ c ≤ 15) (h : RsW W O u σ) (hl : W.length < 600) (K : ∀ s, WrE σ s → RsW (c :: W) O u s → Q none s) : Cm Θ d 253 [.ref 124, .int (nI (rcd c))] σ Q := by
  obtain ⟨⟨a1, a2, a3⟩, b1, b2, b3⟩ := h
  have hr := rcd_b hc
  have hd := dpW_le W
  have l30 : nI (rcd c) = 30 ↔ c = 15 := by rw [← hr.2.2.1]; exact nI_eq (b := 30) (by omega) (by omega)
  have l22 : nI (rcd c) = 22 ↔ c = 6 := by rw [← hr.2.2.2]; exact nI_eq (b := 22) (by omega) (by omega)
  refine K253 (B253_0 ?_)
  have e1 : (sI σ 171 W.length (nI (rcd c))).1 124 72 = nI W.length := by rw [sI_of _ _ (by omega)]; exact a1
  have e2 : ∀ v, (sI (sI σ 171 W.length (nI (rcd c))) 124 72 v).1 124 73 = nI (dpW W) := fun v => by rw [sI_of _ _ (by omega), sI_of _ _ (by omega)]; exact a2
  rw [l30, l22, a1, nI_clamp (by omega), e1, nI_1, e2, nI_1]
  have deep : (c = 6 ∨ c = 15) → Q none (sI (sI (sI σ 171 W.length (nI (rcd c))) 124 72 (nI (W.length + 1))) 124 73 (nI (dpW W + 1))) := fun hc' => by
    refine K _ ⟨((Fr.rfl.I (by decide)).I (by decide)).I (by decide), fun z z1 z2 z3 z4 => ?_, rfl⟩ ⟨⟨?_, ?_, ?_, ?_⟩, ?_, ?_, ?_⟩
    · rw [sI_of _ _ (by omega), sI_of _ _ (by omega), sI_of _ _ (by omega)]
    · rw [sI_of _ _ (by omega), sI_at]; rfl
    · rw [sI_at]; show _ = nI (dpW W + (if c = 6 ∨ c = 15 then 1 else 0)); rw [if_pos hc']
    · rw [sI_of _ _ (by omega), sI_of _ _ (by omega), sI_at]
    · exact rwW_fr (by rw [sI_ne (by decide), sI_ne (by decide)]) (rwW_up (Nat.le_refl _) a3)
    · rw [sI_of _ _ (by omega), sI_of _ _ (by omega), sI_of _ _ (by omega)]; exact b1
    · rw [sI_of _ _ (by omega), sI_of _ _ (by omega), sI_of _ _ (by omega)]; exact b2
    · exact rwR_fr (by rw [sI_ne (by decide), sI_ne (by decide), sI_ne (by decide)]) (by rw [sI_ne (by decide), sI_ne (by decide), sI_ne (by decide)]) b3
  refine ⟨vp_in_nI hl (by decide), fun z => deep (Or.inr z), fun z => ⟨fun y => ?_, fun y => deep (Or.inl y)⟩⟩
  refine K _ ⟨(Fr.rfl.I (by decide)).I (by decide), fun z z1 z2 z3 z4 => ?_, rfl⟩ ⟨⟨?_, ?_, ?_, ?_⟩, ?_, ?_, ?_⟩
  · rw [sI_of _ _ (by omega), sI_of _ _ (by omega)]
  · rw [sI_at]; rfl
  · rw [sI_of _ _ (by omega), sI_of _ _ (by omega)]; show _ = nI (dpW W + (if c = 6 ∨ c = 15 then 1 else 0)); rw [if_neg (by omega)]; exact a2
  · rw [sI_of _ _ (by omega), sI_at]
  · exact rwW_fr (sI_ne (by decide)) (rwW_up (Nat.le_refl _) a3)
  · rw [sI_of _ _ (by omega), sI_of _ _ (by omega)]; exact b1
  · rw [sI_of _ _ (by omega), sI_of _ _ (by omega)]; exact b2
  · exact rwR_fr (by rw [sI_ne (by decide), sI_ne (by decide)]) (by rw [sI_ne (by decide), sI_ne (by decide)]) b3
theorem c254 {c : Nat} {t : List Nat} (hc : 6 ≤ c ∧ c ≤ 14) (h : RsW (c :: t) O u σ) (hl : (c :: t).length < 600) (hO : O.length < 600) (K : ∀ s, WrE σ s → RsW t ((c, 0) :: O) u s → Q none s) : Cm Θ (d + 1) 254 [.ref 124] σ Q := by
  obtain ⟨⟨a1, a2, a3⟩, b1, b2, b3⟩ := h
  have hl : t.length + 1 < 600 := hl
  have hr := rcd_b (c := c) (by omega)
  have hd := dpW_le t
  have l22 : nI (rcd c) = 22 ↔ c = 6 := by rw [← hr.2.2.2]; exact nI_eq (b := 22) (by omega) (by omega)
  refine K254 (B254_0 ?_)
  have e0 : σ.1 124 72 - 1 = nI t.length := by rw [a1, show (c :: t).length = t.length + 1 from rfl, nI_pred]
  rw [e0]
  obtain ⟨s1, hs1⟩ : ∃ s1, s1 = sI σ 124 72 (nI t.length) := ⟨_, rfl⟩
  rw [← hs1]
  have e1 : s1.1 124 72 = nI t.length := by rw [hs1, sI_at]
  have e2 : s1.1 171 t.length = nI (rcd c) := by rw [hs1, sI_of _ _ (by omega)]; exact a3.1
  have e3 : s1.1 124 73 = nI (dpW (c :: t)) := by rw [hs1, sI_of _ _ (by omega)]; exact a2
  have vm := vp_in_nI (show t.length < 600 by omega) (by decide)
  rw [e1, nI_clamp (by omega), e2, l22]
  have W1 : WrE σ s1 := by rw [hs1]; exact ⟨Fr.rfl.I (by decide), fun z z1 z2 z3 z4 => sI_of _ _ (by omega), rfl⟩
  refine ⟨vm, fun z => ⟨vm, ?_⟩, fun z => ?_⟩
  · have hR : RsW t O u s1 := by
      refine ⟨⟨e1, ?_, ?_⟩, ?_, ?_, ?_⟩
      · rw [e3]; show nI (dpW t + (if c = 6 ∨ c = 15 then 1 else 0)) = _; rw [if_neg (by omega)]; rfl
      · exact rwW_fr (by rw [hs1, sI_ne (by decide)]) a3.2
      · rw [hs1, sI_of _ _ (by omega)]; exact b1
      · rw [hs1, sI_of _ _ (by omega)]; exact b2
      · exact rwR_fr (by rw [hs1, sI_ne (by decide)]) (by rw [hs1, sI_ne (by decide)]) b3
    exact c251 (x := (c, 0)) hR hO (fun z => by have z : c ≤ 1 := z; omega) fun s f hs => ⟨rfl, K s (wrE_tr W1 f) hs⟩
  · have e4 : s1.1 124 73 - 1 = nI (dpW t) := by rw [e3]; show nI (dpW t + (if c = 6 ∨ c = 15 then 1 else 0)) - 1 = _; rw [if_pos (Or.inl z), nI_pred]
    rw [e4]
    obtain ⟨s2, hs2⟩ : ∃ s2, s2 = sI s1 124 73 (nI (dpW t)) := ⟨_, rfl⟩
    rw [← hs2]
    have g1 : s2.1 124 72 = nI t.length := by rw [hs2, sI_of _ _ (by omega)]; exact e1
    have g2 : s2.1 171 t.length = nI (rcd c) := by rw [hs2, sI_of _ _ (by omega)]; exact e2
    rw [g1, nI_clamp (by omega), g2]
    have hR : RsW t O u s2 := by
      refine ⟨⟨g1, ?_, ?_⟩, ?_, ?_, ?_⟩
      · rw [hs2, sI_at]
      · exact rwW_fr (by rw [hs2, sI_ne (by decide), hs1, sI_ne (by decide)]) a3.2
      · rw [hs2, sI_of _ _ (by omega), hs1, sI_of _ _ (by omega)]; exact b1
      · rw [hs2, sI_of _ _ (by omega), hs1, sI_of _ _ (by omega)]; exact b2
      · exact rwR_fr (by rw [hs2, sI_ne (by decide), hs1, sI_ne (by decide)]) (by rw [hs2, sI_ne (by decide), hs1, sI_ne (by decide)]) b3
    have W2 : WrE s1 s2 := by rw [hs2]; exact ⟨Fr.rfl.I (by decide), fun z z1 z2 z3 z4 => sI_of _ _ (by omega), rfl⟩
    exact ⟨vm, c251 (x := (c, 0)) hR hO (fun z => by have z : c ≤ 1 := z; omega) fun s f hs => ⟨rfl, K s (wrE_tr W1 (wrE_tr W2 f)) hs⟩⟩
theorem c255 {l : Nat} (hl30 : l ≤ 30) : ∀ (pend : List Nat) (W0 : List Nat) (O : List (Nat × Nat)) (σ : Mem), WOk (pend ++ W0) → (∀ c, c ∈ pend → c ≠ 15 ∧ l ≤ rcd c) → (upW W0 = 30 ∨ upW W0 < l) → RsW (pend ++ W0) O u σ → (pend ++ W0).length + O.length < 600 → (∀ s, WrE σ s → RsW W0 (pops pend O) u s → Q none s) → G Θ (d + 2) 255 0 [some (.ref 124), some (.int (nI l))] [] σ Q
  | [], W0, O, σ, hW, hp, hs, h, hl, K => by
    have hW : WOk W0 := hW
    have hl : W0.length + O.length < 600 := hl
    have h : RsW W0 O u σ := h
    have hb := upW_b hW
    have l30 : nI (upW W0) = 30 ↔ upW W0 = 30 := nI_eq (b := 30) (by omega) (by omega)
    have ll : nI (upW W0) < nI l ↔ upW W0 < l := nI_ltI (by omega) (by omega)
    refine B255_0 (c252 h (by omega) ⟨_, rfl, ?_⟩)
    dsimp only
    rw [l30]
    refine ⟨fun _ => K σ wrE_rfl h, fun z => c252 h (by omega) ⟨_, rfl, ?_⟩⟩
    dsimp only
    rw [ll]
    exact ⟨fun _ => K σ wrE_rfl h, fun y => absurd (hs.resolve_left z) y⟩
  | c :: p, W0, O, σ, hW, hp, hs, h, hl, K => by
    have hc := hW c (by simp)
    have hr := rcd_b hc
    have hp0 := hp c (by simp)
    have hl : (p ++ W0).length + 1 + O.length < 600 := by simpa using hl
    have h : RsW (c :: (p ++ W0)) O u σ := h
    have hlen : (c :: (p ++ W0)).length < 600 := by show (p ++ W0).length + 1 < 600; omega
    have l30 : nI (rcd c) = 30 ↔ c = 15 := by rw [← hr.2.2.1]; exact nI_eq (b := 30) (by omega) (by omega)
    have ll : nI (rcd c) < nI l ↔ rcd c < l := nI_ltI (by omega) (by omega)
    refine B255_0 (c252 h hlen ⟨_, rfl, ?_⟩)
    show (nI (rcd c) = 30 → _) ∧ _
    rw [l30]
    refine ⟨fun z => absurd z hp0.1, fun _ => c252 h hlen ⟨_, rfl, ?_⟩⟩
    show (nI (rcd c) < nI l → _) ∧ _
    rw [ll]
    refine ⟨fun z => by omega, fun _ => c254 (d := d) (by omega) h hlen (by omega) fun s f hs' => ⟨rfl, ?_⟩⟩
    exact c255 hl30 p W0 ((c, 0) :: O) s (fun x hx => hW x (List.mem_cons_of_mem c hx)) (fun x hx => hp x (by simp [hx])) hs hs' (by show (p ++ W0).length + (O.length + 1) < 600; omega) fun s' f' hs'' => K s' (wrE_tr f f') hs''
theorem c256 (hW : WOk W) (h : RsW W O u σ) (hl : W.length < 600) (K : Q (some (.int (b01 (opn W)))) σ) : Cm Θ d 256 [.ref 124] σ Q := by
  obtain ⟨⟨a1, a2, a3⟩, -⟩ := h
  refine K256 (B256_0 ?_)
  have start := loopN (P := fun i => G Θ d 256 4 [some (.ref 124), some (.int (b01 (exB i (fun i => decide (wAt W i = 15))))), some (.int (nI i))] [] σ Q) W.length ?_ ?_
  · exact start
  · refine B256_4 ⟨fun _ => ⟨b01_or _, K⟩, fun z => absurd (by rw [a1]; exact nI_le (Nat.le_refl _) (by omega)) z⟩
  · intro i hi ih
    have e : exB (i + 1) (fun i => decide (wAt W i = 15)) = (exB i (fun i => decide (wAt W i = 15)) || decide (wAt W i = 15)) := rfl
    rw [e] at ih
    have hr := rcd_b (wAt_ok hW hi)
    have l30 : nI (rcd (wAt W i)) = 30 ↔ wAt W i = 15 := by rw [← hr.2.2.1]; exact nI_eq (b := 30) (by omega) (by omega)
    refine B256_4 ⟨fun z => absurd z (by rw [a1]; exact nI_ge hi (by omega)), fun _ => ⟨fun z => ?_, fun z => ⟨vp_in_nI (by omega) (by decide), ?_⟩⟩⟩
    · rw [b01_n] at z; rw [z] at ih; rw [nI_1]; exact ih
    · rw [b01_0] at z
      rw [z] at ih
      rw [nI_clamp (by omega), rwW_at a3 i hi, l30, nI_1]
      refine ⟨fun y => ?_, fun y => ?_⟩
      · rw [decide_eq_false y] at ih; exact ih
      · rw [decide_eq_true y] at ih; exact ih
theorem c257 {v : Nat} (hv : v < 100) (K : Q (some (.int (nI (rkn v)))) σ) : Cm Θ d 257 [.int (nI v)] σ Q := by
  have l27 : nI v = 27 ↔ v = 27 := nI_eq (b := 27) (by omega) (by omega)
  have l24 : nI v = 24 ↔ v = 24 := nI_eq (b := 24) (by omega) (by omega)
  have l25 : nI v = 25 ↔ v = 25 := nI_eq (b := 25) (by omega) (by omega)
  unfold rkn at K
  refine K257 (B257_0 ?_)
  rw [l27, l24, l25]
  refine ⟨fun z => ⟨fun y => ?_, fun y => ⟨fun x => ?_, fun x => ?_⟩⟩, fun z => ?_⟩
  · rw [if_neg z, if_pos (Or.inl y)] at K; exact K
  · rw [if_neg z, if_neg (by omega)] at K; exact K
  · rw [if_neg z, if_pos (Or.inr x)] at K; exact K
  · rw [if_pos z] at K; exact K
theorem c258 {j : Nat} (hn : n ≤ 1300) (hb : ∀ i, b i < 256) (h : TkR b n law j σ) (K : Q (some (.int (rsO (fct (tok b n law j))))) σ) : Cm Θ (d + 1) 258 [.ref 124] σ Q := by
  unfold fct at K
  refine K258 (B258_0 ?_)
  rw [w_judge]
  refine ci (fun _ => c177 hn hb h (by decide)) ?_
  by_cases q1 : (tok b n law j).1 = 1 ∧ (tok b n law j).2.2 = 457236047717
  · rw [if_pos q1] at K ⊢; exact ⟨fun z => absurd z (by decide), fun _ => K⟩
  rw [if_neg q1] at K ⊢
  refine ⟨fun _ => ?_, fun z => absurd rfl z⟩
  rw [w_in]
  refine ci (fun _ => c177 hn hb h (by decide)) ?_
  by_cases q2 : (tok b n law j).1 = 1 ∧ (tok b n law j).2.2 = 26990
  · rw [if_pos q2] at K ⊢; exact ⟨fun z => absurd z (by decide), fun _ => K⟩
  rw [if_neg q2] at K ⊢
  refine ⟨fun _ => ?_, fun z => absurd rfl z⟩
  rw [w_given]
  refine ci (fun _ => c177 hn hb h (by decide)) ?_
  by_cases q3 : (tok b n law j).1 = 1 ∧ (tok b n law j).2.2 = 444150998382
  · rw [if_pos q3] at K ⊢; exact ⟨fun z => absurd z (by decide), fun _ => K⟩
  rw [if_neg q3] at K ⊢
  refine ⟨fun _ => ?_, fun z => absurd rfl z⟩
  rw [w_weight]
  refine ci (fun _ => c177 hn hb h (by decide)) ?_
  by_cases q4 : (tok b n law j).1 = 1 ∧ (tok b n law j).2.2 = 131277443786868
  · rw [if_pos q4] at K ⊢; exact ⟨fun z => absurd z (by decide), fun _ => K⟩
  rw [if_neg q4] at K ⊢; exact ⟨fun _ => K, fun z => absurd rfl z⟩
/-- the marks' names in the reference -/
def MkR (mk : Nat) (nm : Nat → Nat) (σ : Mem) : Prop := σ.1 124 37 = nI mk ∧ mk ≤ 6 ∧ (∀ i, i < mk → σ.2.1 148 i = jJ ((nm i : Nat) : Int) ∧ nm i < 2 ^ 64) ∧ ∀ i k, i < mk → k < mk → nm i = nm k → i = k
theorem MkR_E {mk : Nat} {nm : Nat → Nat} {s : Mem} (h : MkR mk nm σ) (f : FrE σ s) : MkR mk nm s :=
  ⟨by rw [f.2.1 37 (by omega) (by omega) (by omega) (by omega) (by omega)]; exact h.1, h.2.1, by rw [(f.1 148 (by decide)).2.1]; exact h.2.2.1, h.2.2.2⟩
theorem c259 {mk w : Nat} {nm : Nat → Nat} (hM : MkR mk nm σ) (hw : σ.2.1 124 9 = jJ ((w : Nat) : Int)) (hw' : w < 2 ^ 64) (K : Q (some (.int (rsO (fdN nm w mk)))) σ) : Cm Θ d 259 [.ref 124] σ Q := by
  obtain ⟨h0, hm, hr, hd⟩ := hM
  refine K259 (B259_0 ?_)
  have start := loopN (P := fun i => G Θ d 259 4 [some (.ref 124), some (.int (rsO (fdN nm w i))), some (.int (nI i))] [] σ Q) mk ?_ ?_
  · exact start
  · exact B259_4 ⟨fun _ => K, fun q => absurd (by rw [h0]; exact nI_le (Nat.le_refl _) (by omega)) q⟩
  · intro i hi ih
    refine B259_4 ⟨fun q => absurd q (by rw [h0]; exact nI_ge hi (by omega)), fun _ => ⟨vp_in_nI (by omega) (by decide), ?_⟩⟩
    rw [nI_clamp (by omega), (hr i hi).1, hw, lc_eq, jJ_inj (hr i hi).2 hw', nI_1]
    refine ⟨fun e => ?_, fun e => ?_⟩
    · have : fdN nm w (i + 1) = fdN nm w i := by
        show (match fdN nm w i with | some y => some y | none => if nm i = w then some i else none) = _
        cases fdN nm w i with
        | some y => rfl
        | none => rw [if_neg e]
      rw [this] at ih; exact ih
    · have : fdN nm w (i + 1) = some i := fdN_some e (fun k hk z => by have := hd k i (by omega) hi (z.trans e.symm); omega) (by omega)
      rw [this] at ih; exact ih
end rlw
