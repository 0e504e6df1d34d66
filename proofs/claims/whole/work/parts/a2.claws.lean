/-! CONTRACTS: the class reads a laws' text: expressions -/
def rwC (o : Nat) : List (Nat × Nat) → Mem → Prop
  | [], _ => True
  | x :: t, σ => (σ.1 (o + 4) t.length = nI x.1 ∧ σ.1 (o + 5) t.length = nI x.2) ∧ rwC o t σ
/-- the program that stands, and how many units -/
def LpC (o : Nat) (P : List (Nat × Nat)) (u : Nat) (σ : Mem) : Prop := (o = 32 ∨ o = 39) ∧ (σ.1 o 8 = nI P.length ∧ σ.1 o 9 = nI u) ∧ rwC o P σ
def MkC (r mk : Nat) (nm : Nat → Nat) (σ : Mem) : Prop := (r = 12 ∨ r = 22) ∧ σ.1 r 0 = nI mk ∧ mk ≤ 6 ∧ ∀ i, i < mk → σ.2.1 (r + 1) i = jJ ((nm i : Nat) : Int) ∧ nm i < 2 ^ 64
def FrO (o : Nat) (σ s : Mem) : Prop := Fr [1, o, o + 4, o + 5] σ s ∧ (∀ y, y ≠ 8 → y ≠ 9 → s.1 o y = σ.1 o y) ∧ s.2.2 o = σ.2.2 o ∧ s.2.1 o = σ.2.1 o
theorem frO_rfl {o : Nat} {σ : Mem} : FrO o σ σ := ⟨Fr.rfl, fun _ _ _ => rfl, rfl, rfl⟩
theorem frO_tr {o : Nat} {σ σ' σ'' : Mem} (h : FrO o σ σ') (h' : FrO o σ' σ'') : FrO o σ σ'' := ⟨h.1.tr h'.1, fun y a c => (h'.2.1 y a c).trans (h.2.1 y a c), h'.2.2.1.trans h.2.2.1, h'.2.2.2.trans h.2.2.2⟩
theorem frO_1 {o : Nat} {σ s : Mem} (ho : o = 32 ∨ o = 39) (h : Fr [1] σ s) : FrO o σ s := by
  have e := h o (by simp; omega)
  exact ⟨h.mono (by intro x hx; simp at hx; subst hx; simp), fun y _ _ => by rw [e.1], by rw [e.2.2], by rw [e.2.1]⟩
theorem rwC_fr {o : Nat} {σ s : Mem} (h1 : s.1 (o + 4) = σ.1 (o + 4)) (h2 : s.1 (o + 5) = σ.1 (o + 5)) : ∀ {P : List (Nat × Nat)}, rwC o P σ → rwC o P s
  | [], _ => True.intro
  | x :: t, h => ⟨by rw [h1, h2]; exact h.1, rwC_fr h1 h2 h.2⟩
theorem LpC_1 {o u : Nat} {P : List (Nat × Nat)} {σ s : Mem} (h : LpC o P u σ) (f : Fr [1] σ s) : LpC o P u s := by
  obtain ⟨h1, ⟨h2, h3⟩, h4⟩ := h
  have e := (f o (by simp; omega)).1
  exact ⟨h1, ⟨by rw [e]; exact h2, by rw [e]; exact h3⟩, rwC_fr (f (o + 4) (by simp)).1 (f (o + 5) (by simp)).1 h4⟩
theorem MkC_o {r mk o : Nat} {nm : Nat → Nat} {σ s : Mem} (h : MkC r mk nm σ) (ho : o = 32 ∨ o = 39) (f : FrO o σ s) : MkC r mk nm s := by
  obtain ⟨h1, h2, h3, h4⟩ := h
  have e := (f.1 r (by simp; omega)).1
  have e' := (f.1 (r + 1) (by simp; omega)).2.1
  exact ⟨h1, by rw [e]; exact h2, h3, by rw [e']; exact h4⟩
theorem o_s {o : Nat} (h : o = 32 ∨ o = 39) : (shq o).1 = 6 := by rcases h with rfl | rfl <;> rfl
/-- rows that a write ahead of them leaves -/
theorem rwC_up {o k : Nat} {a c : Int32} {σ : Mem} : ∀ {P : List (Nat × Nat)}, P.length ≤ k → rwC o P σ → rwC o P (sI (sI σ (o + 4) k a) (o + 5) k c)
  | [], _, _ => True.intro
  | x :: t, hl, h => by
    have hl : t.length + 1 ≤ k := hl
    refine ⟨?_, rwC_up (by omega) h.2⟩
    rw [sI_of _ _ (by omega), sI_of _ _ (by omega), sI_of _ _ (by omega), sI_of _ _ (by omega)]; exact h.1
section cla
variable {Θ : Th} {d : Nat} {σ : Mem} {Q : Po} {b : Nat → Nat} {n : Nat} {law : Bool} {o r mk : Nat} {nm : Nat → Nat}
theorem c60 {P : List (Nat × Nat)} {u : Nat} {x : Nat × Nat} (h : LpC o P u σ) (hl : P.length < 500) (K : ∀ s, FrO o σ s → Fr [o, o + 4, o + 5] σ s → LpC o (x :: P) u s → Q (some (.int 1)) s) : Cm Θ d 60 [.ref o, .int (nI x.1), .int (nI x.2)] σ Q := by
  obtain ⟨ho, ⟨h8, h9⟩, hr⟩ := h
  have vm := vp_in_nI hl (by decide)
  refine K60 (B60_0 (o_s ho) ⟨fun z => absurd z (by rw [h8]; exact nI_ge (b := 500) hl (by omega)), fun _ => ?_⟩)
  have e1 : ∀ v, (sI σ (o + 4) P.length v).1 o 8 = nI P.length := fun v => by rw [sI_of _ _ (by omega)]; exact h8
  have e2 : ∀ v w, (sI (sI σ (o + 4) P.length v) (o + 5) P.length w).1 o 8 = nI P.length := fun v w => by rw [sI_of _ _ (by omega)]; exact e1 v
  rw [h8, nI_clamp (by omega), e1, nI_clamp (by omega), e2, nI_1]
  have f0 : Fr [o, o + 4, o + 5] σ (sI (sI (sI σ (o + 4) P.length (nI x.1)) (o + 5) P.length (nI x.2)) o 8 (nI (P.length + 1))) := ((Fr.rfl.I (by simp)).I (by simp)).I (by simp)
  refine ⟨vm, vm, K _ ⟨f0.mono (fun y hy => by simp at hy ⊢; omega), fun y y1 y2 => ?_, rfl, rfl⟩ f0 ⟨ho, ⟨?_, ?_⟩, ?_, ?_⟩⟩
  · rw [sI_of _ _ (by omega), sI_of _ _ (by omega), sI_of _ _ (by omega)]
  · rw [sI_at]; rfl
  · rw [sI_of _ _ (by omega), sI_of _ _ (by omega), sI_of _ _ (by omega)]; exact h9
  · rw [sI_of _ _ (by omega), sI_of _ _ (by omega), sI_at, sI_of _ _ (by omega), sI_at]; exact ⟨rfl, rfl⟩
  · exact rwC_fr (sI_ne (by omega)) (sI_ne (by omega)) (rwC_up (Nat.le_refl _) hr)
theorem c56 {j : Nat} (ho : o = 32 ∨ o = 39) (hn : n ≤ 1300) (hb : ∀ i, b i < 256) (h : TkC b n law j σ) (K : Q (some (.int (rsO (sgL (tok b n law j) 2)))) σ) : Cm Θ (d + 1) 56 [.ref o] σ Q := by
  have e : sgL (tok b n law j) 2 = (if (tok b n law j).1 = 3 ∧ (tok b n law j).2.2 = 60 then some 9 else if (tok b n law j).1 = 3 ∧ (tok b n law j).2.2 = 62 then some 10 else if (tok b n law j).1 = 3 ∧ (tok b n law j).2.2 = 61 then some 11 else none) := rfl
  rw [e] at K
  refine K56 (B56_0 (o_s ho) ?_)
  refine ci (fun _ => c111 (w := 60) hn hb h (by decide)) ?_
  by_cases q1 : (tok b n law j).1 = 3 ∧ (tok b n law j).2.2 = 60
  · rw [if_pos q1] at K ⊢; exact ⟨fun z => absurd z (by decide), fun _ => K⟩
  · rw [if_neg q1] at K ⊢
    refine ⟨fun _ => ?_, fun z => absurd rfl z⟩
    refine ci (fun _ => c111 (w := 62) hn hb h (by decide)) ?_
    by_cases q2 : (tok b n law j).1 = 3 ∧ (tok b n law j).2.2 = 62
    · rw [if_pos q2] at K ⊢; exact ⟨fun z => absurd z (by decide), fun _ => K⟩
    · rw [if_neg q2] at K ⊢
      refine ⟨fun _ => ?_, fun z => absurd rfl z⟩
      refine ci (fun _ => c111 (w := 61) hn hb h (by decide)) ?_
      by_cases q3 : (tok b n law j).1 = 3 ∧ (tok b n law j).2.2 = 61
      · rw [if_pos q3] at K ⊢; exact ⟨fun z => absurd z (by decide), fun _ => K⟩
      · rw [if_neg q3] at K ⊢; exact ⟨fun _ => K, fun z => absurd rfl z⟩
theorem w_or : (28530 : Int64) = jJ ((28530 : Nat) : Int) := by decide +kernel
theorem w_and : (6385252 : Int64) = jJ ((6385252 : Nat) : Int) := by decide +kernel
theorem w_not : (7237492 : Int64) = jJ ((7237492 : Nat) : Int) := by decide +kernel
theorem w_when : (2003330414 : Int64) = jJ ((2003330414 : Nat) : Int) := by decide +kernel
theorem w_least : (465557353332 : Int64) = jJ ((465557353332 : Nat) : Int) := by decide +kernel
theorem w_most : (1836020596 : Int64) = jJ ((1836020596 : Nat) : Int) := by decide +kernel
theorem nI_int {v : Nat} (h : v < 2147483648) : (nI v).toInt = v := by rw [iI_nI, iI_toInt (by omega) (by omega)]
theorem c55 {j L : Nat} (ho : o = 32 ∨ o = 39) (hn : n ≤ 1300) (hb : ∀ i, b i < 256) (h : TkC b n law j σ) (hL : L ≤ 4) (K : Q (some (.int (rsO (sgL (tok b n law j) L)))) σ) : Cm Θ (d + 2) 55 [.ref o, .int (nI L)] σ Q := by
  refine K55 (B55_0 (o_s ho) ?_)
  rw [nI_int (by omega)]
  refine ⟨fun z => by omega, fun z => ?_, fun z => ?_, fun z => ?_, fun z => ?_, fun z => ?_⟩
  · have z : L = 0 := by omega
    subst z
    have e : sgL (tok b n law j) 0 = (if (tok b n law j).1 = 1 ∧ (tok b n law j).2.2 = 28530 then some 7 else none) := rfl
    rw [e] at K
    rw [w_or]
    refine ci (fun _ => c110 hn hb h (by decide)) ?_
    by_cases q1 : (tok b n law j).1 = 1 ∧ (tok b n law j).2.2 = 28530
    · rw [if_pos q1] at K ⊢; exact ⟨fun z => absurd z (by decide), fun _ => K⟩
    · rw [if_neg q1] at K ⊢; exact ⟨fun _ => K, fun z => absurd rfl z⟩
  · have z : L = 1 := by omega
    subst z
    have e : sgL (tok b n law j) 1 = (if (tok b n law j).1 = 1 ∧ (tok b n law j).2.2 = 6385252 then some 8 else none) := rfl
    rw [e] at K
    rw [w_and]
    refine ci (fun _ => c110 hn hb h (by decide)) ?_
    by_cases q1 : (tok b n law j).1 = 1 ∧ (tok b n law j).2.2 = 6385252
    · rw [if_pos q1] at K ⊢; exact ⟨fun z => absurd z (by decide), fun _ => K⟩
    · rw [if_neg q1] at K ⊢; exact ⟨fun _ => K, fun z => absurd rfl z⟩
  · have z : L = 2 := by omega
    subst z
    exact c56 (d := d) ho hn hb h ⟨_, rfl, K⟩
  · have z : L = 3 := by omega
    subst z
    have e : sgL (tok b n law j) 3 = (if (tok b n law j).1 = 3 ∧ (tok b n law j).2.2 = 43 then some 12 else if (tok b n law j).1 = 3 ∧ (tok b n law j).2.2 = 45 then some 13 else none) := rfl
    rw [e] at K
    refine ci (fun _ => c111 (w := 43) hn hb h (by decide)) ?_
    by_cases q1 : (tok b n law j).1 = 3 ∧ (tok b n law j).2.2 = 43
    · rw [if_pos q1] at K ⊢; exact ⟨fun z => absurd z (by decide), fun _ => K⟩
    · rw [if_neg q1] at K ⊢
      refine ⟨fun _ => ?_, fun z => absurd rfl z⟩
      refine ci (fun _ => c111 (w := 45) hn hb h (by decide)) ?_
      by_cases q2 : (tok b n law j).1 = 3 ∧ (tok b n law j).2.2 = 45
      · rw [if_pos q2] at K ⊢; exact ⟨fun z => absurd z (by decide), fun _ => K⟩
      · rw [if_neg q2] at K ⊢; exact ⟨fun _ => K, fun z => absurd rfl z⟩
  · have z : L = 4 := by omega
    subst z
    have e : sgL (tok b n law j) 4 = (if (tok b n law j).1 = 3 ∧ (tok b n law j).2.2 = 42 then some 14 else none) := rfl
    rw [e] at K
    refine ci (fun _ => c111 (w := 42) hn hb h (by decide)) ?_
    by_cases q1 : (tok b n law j).1 = 3 ∧ (tok b n law j).2.2 = 42
    · rw [if_pos q1] at K ⊢; exact ⟨fun z => absurd z (by decide), fun _ => K⟩
    · rw [if_neg q1] at K ⊢; exact ⟨fun _ => K, fun z => absurd rfl z⟩
theorem c59 {j : Nat} (ho : o = 32 ∨ o = 39) (hn : n ≤ 1300) (hb : ∀ i, b i < 256) (h : TkC b n law j σ) (K : Q (some (.int (rsO (fct (tok b n law j))))) σ) : Cm Θ (d + 1) 59 [.ref o] σ Q := by
  unfold fct at K
  refine K59 (B59_0 (o_s ho) ?_)
  rw [w_judge]
  refine ci (fun _ => c110 hn hb h (by decide)) ?_
  by_cases q1 : (tok b n law j).1 = 1 ∧ (tok b n law j).2.2 = 457236047717
  · rw [if_pos q1] at K ⊢; exact ⟨fun z => absurd z (by decide), fun _ => K⟩
  rw [if_neg q1] at K ⊢
  refine ⟨fun _ => ?_, fun z => absurd rfl z⟩
  rw [w_in]
  refine ci (fun _ => c110 hn hb h (by decide)) ?_
  by_cases q2 : (tok b n law j).1 = 1 ∧ (tok b n law j).2.2 = 26990
  · rw [if_pos q2] at K ⊢; exact ⟨fun z => absurd z (by decide), fun _ => K⟩
  rw [if_neg q2] at K ⊢
  refine ⟨fun _ => ?_, fun z => absurd rfl z⟩
  rw [w_given]
  refine ci (fun _ => c110 hn hb h (by decide)) ?_
  by_cases q3 : (tok b n law j).1 = 1 ∧ (tok b n law j).2.2 = 444150998382
  · rw [if_pos q3] at K ⊢; exact ⟨fun z => absurd z (by decide), fun _ => K⟩
  rw [if_neg q3] at K ⊢
  refine ⟨fun _ => ?_, fun z => absurd rfl z⟩
  rw [w_weight]
  refine ci (fun _ => c110 hn hb h (by decide)) ?_
  by_cases q4 : (tok b n law j).1 = 1 ∧ (tok b n law j).2.2 = 131277443786868
  · rw [if_pos q4] at K ⊢; exact ⟨fun z => absurd z (by decide), fun _ => K⟩
  rw [if_neg q4] at K ⊢; exact ⟨fun _ => K, fun z => absurd rfl z⟩
theorem TkC_o {j : Nat} {s : Mem} (ho : o = 32 ∨ o = 39) (h : TkC b n law j σ) (f : Fr [o, o + 4, o + 5] σ s) : TkC b n law j s :=
  TkC_fr h f fun x h1 h2 => by simp; omega
theorem c58 {j u : Nat} {P : List (Nat × Nat)} (hn : n ≤ 1300) (hb : ∀ i, b i < 256) (h : TkC b n law j σ) (hP : LpC o P u σ) (hl : ∀ x, rUn (tok b n law) mk nm j = .ok x → P.length < 500) (hM : MkC r mk nm σ) (hr : σ.2.2 o 1 = r)
    (KE : ∀ e s, rUn (tok b n law) mk nm j = .error e → FrO o σ s → FaC e s → Q (some (.int 0)) s)
    (KO : ∀ x s, rUn (tok b n law) mk nm j = .ok x → FrO o σ s → TkC b n law (j + 1) s → LpC o (x :: P) u s → Q (some (.int 1)) s) : Cm Θ (d + 2) 58 [.ref o] σ Q := by
  have ho := hP.1
  have k1 := h.2.2.2.1
  have k3 := h.2.2.2.2.2
  have b4 := (tok_b (law := law) (b := b) hn j).1
  have bv := tok_v (law := law) hn hb j
  have l : nI (tok b n law j).1 = 2 ↔ (tok b n law j).1 = 2 := kd_eq (c := 2) b4 (by omega)
  refine K58 (B58_0 (o_s ho) ?_)
  rw [k1, l]
  have put : ∀ (x : Nat × Nat), rUn (tok b n law) mk nm j = .ok x → Ci Θ (d + 1) 60 [.ref o, .int (nI x.1), .int (nI x.2)] σ (fun v15 σ15 => Cv Θ (d + 1) 102 [.ref 1] σ15 (fun σ16 => Q (some (.int 1)) σ16)) := fun x hx => by
    refine c60 hP (hl x hx) fun s f f' hP' => ⟨_, rfl, ?_⟩
    exact c102 hn (TkC_o ho h f') fun s' f2 t2 => ⟨rfl, KO x s' hx (frO_tr f (frO_1 ho f2)) t2 (LpC_1 hP' f2)⟩
  refine ⟨fun q => ?_, fun q => ?_⟩
  · refine ci (fun _ => c112 hn hb h) ?_
    by_cases q2 : isNm (tok b n law j) = true
    · rw [if_pos q2]
      refine ⟨fun z => absurd z (by decide), fun _ => ?_⟩
      have hr0 : r ≠ 0 := by have := hM.1; omega
      have q1 := isNm_1 q2
      rw [hr, k3 (by omega)]
      refine ⟨hr0, bk_s hM.1, ?_⟩
      refine c10g (bk_s hM.1) hM.2.1 hM.2.2.1 hM.2.2.2 (bv.2.1 (by omega)) (fun e => ⟨_, rfl, fun z => absurd z (by decide), fun _ => ?_⟩) fun m e => ⟨_, rfl, fun _ => put (1, m) (by unfold rUn; rw [if_neg q, if_pos q2, e]), fun z => ?_⟩
      · refine c109 (f := 5) hn h fun s f t => ⟨_, rfl, Or.inl rfl, KE _ s ?_ (frO_1 ho f) t⟩
        unfold rUn; rw [if_neg q, if_pos q2, e]
      · have := (fdN_lt e).1
        have := hM.2.2.1
        exact absurd (nI_le (a := 0) (Nat.zero_le m) (by omega)) z
    · rw [if_neg q2]
      refine ⟨fun _ => ?_, fun z => absurd rfl z⟩
      refine c59 (d := d) ho hn hb h ⟨_, rfl, ?_⟩
      cases e : fct (tok b n law j) with
      | none =>
        refine ⟨fun z => absurd z (by decide), fun _ => c109 (f := 2) hn h fun s f t => ⟨_, rfl, Or.inl rfl, KE _ s ?_ (frO_1 ho f) t⟩⟩
        unfold rUn; rw [if_neg q, if_neg q2, e]
      | some f =>
        have := fct_b e
        exact ⟨fun _ => put (f, 0) (by unfold rUn; rw [if_neg q, if_neg q2, e]), fun z => absurd (nI_le (a := 0) (Nat.zero_le f) (by omega)) z⟩
  · rw [k3 (by omega), jJ_32 (by have := bv.2.2.1 q; omega)]
    exact put (0, (tok b n law j).2.2) (if_pos q)
/-- the class's readLevel, for so much fuel -/
def P54 (Θ : Th) (D : Nat) (b : Nat → Nat) (n : Nat) (law : Bool) (o r mk : Nat) (nm : Nat → Nat) (f : Nat) : Prop :=
  ∀ (L w : Nat) (P : List (Nat × Nat)) (u j : Nat) (σ : Mem) (Q : Po), L ≤ 5 → w ≤ 7 → (7 - w) * 6 + (6 - L) ≤ f → TkC b n law j σ → LpC o P u σ → P.length ≤ j → u ≤ 50 → MkC r mk nm σ → σ.2.2 o 1 = r →
    (∀ e s, rLv (tok b n law) mk nm f L w (P, u, j) = .error e → FrO o σ s → FaC e s → Q (some (.int 0)) s) →
    (∀ c s, rLv (tok b n law) mk nm f L w (P, u, j) = .ok c → FrO o σ s → TkC b n law c.2.2 s → LpC o c.1 c.2.1 s → Q (some (.int 1)) s) → Cm Θ D 54 [.ref o, .int (nI L), .int (nI w)] σ Q
theorem c57h {f w u j : Nat} {P : List (Nat × Nat)} (hn : n ≤ 500) (hb : ∀ i, b i < 256) (ih : P54 Θ (d + 2) b n law o r mk nm f) (hw : w ≤ 7) (hf : (7 - w) * 6 ≤ f) (h : TkC b n law j σ) (hP : LpC o P u σ) (hl : P.length ≤ j) (hu : u ≤ 50) (hM : MkC r mk nm σ) (hr : σ.2.2 o 1 = r)
    (KE : ∀ e s, rLv (tok b n law) mk nm (f + 1) 5 w (P, u, j) = .error e → FrO o σ s → FaC e s → Q (some (.int 0)) s)
    (KO : ∀ c s, rLv (tok b n law) mk nm (f + 1) 5 w (P, u, j) = .ok c → FrO o σ s → TkC b n law c.2.2 s → LpC o c.1 c.2.1 s → Q (some (.int 1)) s) : Cm Θ (d + 3) 57 [.ref o, .int (nI w)] σ Q := by
  have hn13 : n ≤ 1300 := by omega
  have ho := hP.1
  have eU : rLv (tok b n law) mk nm (f + 1) 5 w (P, u, j) = (if 50 ≤ u then .error (flt 2 (tok b n law j)) else if (tok b n law j).1 = 3 ∧ (tok b n law j).2.2 = 40 then (if 6 < w then .error (flt 2 (tok b n law j)) else andT (rLv (tok b n law) mk nm f 0 (w + 1) (P, u + 1, j + 1)) fun c => andT (rG (tok b n law) 41 c.2.2) fun j' => .ok (c.1, c.2.1, j'))
      else andT (rUn (tok b n law) mk nm j) fun x => .ok (x :: P, u + 1, j + 1)) := rfl
  have l50 : nI u < 50 ↔ u < 50 := nI_ltI (b := 50) (by omega) (by omega)
  refine K57 (B57_0 (o_s ho) ?_)
  rw [hP.2.1.2, l50, nI_1]
  refine ⟨fun hu' => ?_, fun hu' => ?_⟩
  · rw [if_neg (by omega)] at eU
    obtain ⟨s1, hs1⟩ : ∃ s1, s1 = sI σ o 9 (nI (u + 1)) := ⟨_, rfl⟩
    rw [← hs1]
    have f1 : Fr [o] σ s1 := by rw [hs1]; exact Fr.rfl.I (by simp)
    have F1 : FrO o σ s1 := ⟨f1.mono (by intro x hx; simp at hx; subst hx; simp), fun y y1 y2 => by rw [hs1, sI_of _ _ (by omega)], by rw [hs1]; rfl, by rw [hs1]; rfl⟩
    have t1 : TkC b n law j s1 := TkC_fr h f1 fun x h1 h2 => by simp; omega
    have hP1 : LpC o P (u + 1) s1 := ⟨ho, ⟨by rw [hs1, sI_of _ _ (by omega)]; exact hP.2.1.1, by rw [hs1, sI_at]⟩, rwC_fr (f1 (o + 4) (by simp)).1 (f1 (o + 5) (by simp)).1 hP.2.2⟩
    have hM1 := MkC_o hM ho F1
    have hr1 : s1.2.2 o 1 = r := by rw [hs1]; exact hr
    refine ci (fun _ => c111 (w := 40) hn13 hb t1 (by decide)) ?_
    by_cases q : (tok b n law j).1 = 3 ∧ (tok b n law j).2.2 = 40
    · rw [if_pos q] at eU ⊢
      refine ⟨fun z => absurd z (by decide), fun _ => ?_⟩
      have l6 : nI w ≤ 6 ↔ w ≤ 6 := nI_leI (b := 6) (by omega) (by omega)
      rw [l6, nI_1]
      refine ⟨fun q6 => ?_, fun q6 => ?_⟩
      · rw [if_neg (by omega)] at eU
        refine c102 hn13 t1 fun s2 f2 t2 => ⟨rfl, ?_⟩
        have F2 := frO_tr F1 (frO_1 ho f2)
        refine ih 0 (w + 1) P (u + 1) (j + 1) s2 _ (by omega) (by omega) (by omega) t2 (LpC_1 hP1 f2) (by omega) (by omega) (MkC_o hM ho F2) (by rw [F2.2.2.1]; exact hr) (fun e s he fs ts => ⟨_, rfl, fun _ => KE e s (by rw [eU, andT_er he]) (frO_tr F2 fs) ts, fun z => absurd rfl z⟩) fun c s hc fs ts hPs => ⟨_, rfl, fun z => absurd z (by decide), fun _ => ?_⟩
        refine c114 (d := d + 1) (w := 41) hn13 hb ts (by decide) (fun e s' he fs' ts' => ⟨_, rfl, fun _ => KE e s' (by rw [eU, andT_ok hc, andT_er he]) (frO_tr F2 (frO_tr fs (frO_1 ho fs'))) ts', fun z => absurd rfl z⟩) fun s' he fs' ts' => ⟨_, rfl, fun z => absurd z (by decide), fun _ => KO (c.1, c.2.1, c.2.2 + 1) s' (by rw [eU, andT_ok hc, andT_ok he]) (frO_tr F2 (frO_tr fs (frO_1 ho fs'))) ts' (LpC_1 hPs fs')⟩
      · rw [if_pos (by omega)] at eU
        exact c109 (f := 2) hn13 t1 fun s fs ts => ⟨_, rfl, Or.inl rfl, KE _ s eU (frO_tr F1 (frO_1 ho fs)) ts⟩
    · rw [if_neg q] at eU ⊢
      refine ⟨fun _ => ?_, fun z => absurd rfl z⟩
      refine c58 (d := d) hn13 hb t1 hP1 (fun x hx => by have := tok_lt hn13 (rUn_1 hx); omega) hM1 hr1 (fun e s he fs ts => ⟨_, rfl, Or.inl rfl, KE e s (by rw [eU, andT_er he]) (frO_tr F1 fs) ts⟩) fun x s hx fs ts hPs => ⟨_, rfl, Or.inr rfl, KO (x :: P, u + 1, j + 1) s (by rw [eU, andT_ok hx]) (frO_tr F1 fs) ts hPs⟩
  · rw [if_pos (by omega)] at eU
    exact c109 (f := 2) hn13 h fun s fs ts => ⟨_, rfl, Or.inl rfl, KE _ s eU (frO_1 ho fs) ts⟩
theorem c54x {L w J : Nat} {i : Int32} {s : Mem} (ho : o = 32 ∨ o = 39) (K : Q (some (.int 0)) s) : G Θ (d + 1) 54 103 [some (.ref o), some (.int (nI L)), some (.int (nI w)), some (.int 0), some (.int (nI J)), some (.int i), none] [] s Q :=
  B54_103 (o_s ho) ⟨fun _ => ⟨Or.inl rfl, K⟩, fun _ => ⟨fun _ => ⟨Or.inl rfl, K⟩, fun z => absurd rfl z⟩⟩
theorem c54j {f L w J : Nat} (hn : n ≤ 500) (hb : ∀ i, b i < 256) (hm : mk ≤ 6) (ho : o = 32 ∨ o = 39) (ih : P54 Θ (d + 2) b n law o r mk nm f) (hL : L ≤ 4) (hw : w ≤ 7) (hf : (7 - w) * 6 + (5 - L) ≤ f) (hJ : J ≤ 50) : ∀ (g i : Nat) (P : List (Nat × Nat)) (u j : Nat) (σ : Mem), i + g = J → TkC b n law j σ → LpC o P u σ → P.length ≤ j → u ≤ 50 → MkC r mk nm σ → σ.2.2 o 1 = r →
    (∀ e s, rJn (tok b n law) (rLv (tok b n law) mk nm f (L + 1) w) L g (P, u, j) = .error e → FrO o σ s → FaC e s → Q (some (.int 0)) s) →
    (∀ c s, rJn (tok b n law) (rLv (tok b n law) mk nm f (L + 1) w) L g (P, u, j) = .ok c → FrO o σ s → TkC b n law c.2.2 s → LpC o c.1 c.2.1 s → Q (some (.int 1)) s) → G Θ (d + 3) 54 103 [some (.ref o), some (.int (nI L)), some (.int (nI w)), some (.int 1), some (.int (nI J)), some (.int (nI i)), none] [] σ Q
  | 0, i, P, u, j, σ, hi, h, hP, hl, hu, hM, hr, KE, KO => by
    have hi : i = J := by omega
    subst hi
    exact B54_103 (o_s ho) ⟨fun _ => ⟨Or.inr rfl, KO _ σ rfl frO_rfl h hP⟩, fun z => absurd (nI_le (Nat.le_refl _) (by omega)) z⟩
  | g + 1, i, P, u, j, σ, hi, h, hP, hl, hu, hM, hr, KE, KO => by
    have hn13 : n ≤ 1300 := by omega
    refine B54_103 (o_s ho) ⟨fun z => absurd z (nI_ge (show i < J by omega) (by omega)), fun _ => ⟨fun z => absurd z (by decide), fun _ => ?_⟩⟩
    refine c55 (d := d) ho hn13 hb h hL ⟨_, rfl, ?_⟩
    cases eS : sgL (tok b n law j) L with
    | none =>
      have eJ : rJn (tok b n law) (rLv (tok b n law) mk nm f (L + 1) w) L (g + 1) (P, u, j) = .ok (P, u, j) := by
        unfold rJn; show (match sgL (tok b n law j) L with | none => _ | some o => _) = _; rw [eS]
      exact ⟨fun _ => ⟨Or.inr rfl, KO _ σ eJ frO_rfl h hP⟩, fun z => absurd (by decide) z⟩
    | some x =>
      have eJ : rJn (tok b n law) (rLv (tok b n law) mk nm f (L + 1) w) L (g + 1) (P, u, j) = andT (rLv (tok b n law) mk nm f (L + 1) w (P, u, j + 1)) fun c => rJn (tok b n law) (rLv (tok b n law) mk nm f (L + 1) w) L g ((x, 0) :: c.1, c.2) := by
        show (match sgL (tok b n law j) L with | none => _ | some o => _) = _; rw [eS]
      have hx := sgL_b eS
      refine ⟨fun z => absurd z (nI_pos (by omega)), fun _ => ?_⟩
      refine c55 (d := d) ho hn13 hb h hL ⟨_, rfl, ?_⟩
      rw [eS]
      refine c102 hn13 h fun s1 f1 t1 => ⟨rfl, ?_⟩
      have F1 := frO_1 ho f1
      rw [nI_1, nI_1]
      refine ih (L + 1) w P u (j + 1) s1 _ (by omega) hw (by omega) t1 (LpC_1 hP f1) (by omega) hu (MkC_o hM ho F1) (by rw [F1.2.2.1]; exact hr) (fun e s he fs ts => ⟨_, rfl, fun _ => c54x (d := d + 2) ho (KE e s (by rw [eJ, andT_er he]) (frO_tr F1 fs) ts), fun z => absurd rfl z⟩) fun c s hc fs ts hPs => ⟨_, rfl, fun z => absurd z (by decide), fun _ => ?_⟩
      have hv := rLv_ok (law := law) hn13 hb hm f (L + 1) w _ c hc
      obtain ⟨r1, r2, r3, r4, q, e, l, -, -⟩ := hv
      have e : c.1 = q ++ P := e
      have l : q.length + (j + 1) ≤ c.2.2 := l
      have hc1 : c.1.length < c.2.2 := by rw [e, List.length_append]; omega
      refine c60 (x := (x, 0)) hPs (by omega) fun s2 f2 f2' hP2 => ⟨_, rfl, fun z => absurd z (by decide), fun _ => ?_⟩
      have F2 := frO_tr F1 (frO_tr fs f2)
      exact c54j hn hb hm ho ih hL hw hf hJ g (i + 1) ((x, 0) :: c.1) c.2.1 c.2.2 s2 (by omega) (TkC_o ho ts f2') hP2 (by show c.1.length + 1 ≤ c.2.2; omega) r2 (MkC_o hM ho F2) (by rw [F2.2.2.1]; exact hr) (fun e s he f t => KE e s (by rw [eJ, andT_ok hc]; exact he) (frO_tr F2 f) t) fun c' s hc' f t hP' => KO c' s (by rw [eJ, andT_ok hc]; exact hc') (frO_tr F2 f) t hP'
theorem c54 (hn : n ≤ 500) (hb : ∀ i, b i < 256) (hm : mk ≤ 6) (ho : o = 32 ∨ o = 39) : ∀ (f e : Nat), P54 Θ (e + 2 * f + 4) b n law o r mk nm f
  | 0, e => fun L w P u j σ Q hL hw hf h hP hl hu hM hr KE KO => by omega
  | f + 1, e => fun L w P u j σ Q hL hw hf h hP hl hu hM hr KE KO => by
    have hn13 : n ≤ 1300 := by omega
    have ih1 : P54 Θ (e + 2 * f + 2 + 2) b n law o r mk nm f := c54 hn hb hm ho f e
    have ih2 : P54 Θ (e + 2 * f + 3 + 2) b n law o r mk nm f := by
      have := c54 hn hb hm ho f (e + 1)
      rw [show e + 1 + 2 * f + 4 = e + 2 * f + 3 + 2 by omega] at this
      exact this
    rw [show e + 2 * (f + 1) + 4 = e + 2 * f + 5 + 1 by omega]
    have l5 : nI L = 5 ↔ L = 5 := nI_eq (b := 5) (by omega) (by omega)
    have l2 : nI L = 2 ↔ L = 2 := nI_eq (b := 2) (by omega) (by omega)
    -- an operand, and what is joined to it
    have go : ∀ (J : Nat) (Jv : Int32), J ≤ 50 → L ≤ 4 → rLv (tok b n law) mk nm (f + 1) L w (P, u, j) = andT (rLv (tok b n law) mk nm f (L + 1) w (P, u, j)) (fun c => rJn (tok b n law) (rLv (tok b n law) mk nm f (L + 1) w) L J c) → Jv = nI J → Ci Θ (e + 2 * f + 5) 54 [.ref o, .int (nI L + 1), .int (nI w)] σ (fun v3 σ3 => G Θ (e + 2 * f + 5 + 1) 54 103 [some (.ref o), some (.int (nI L)), some (.int (nI w)), some (.int v3), some (.int Jv), some (.int 0), none] [] σ3 Q) := fun J Jv hJ hL4 eL hJv => by
      rw [nI_1, hJv]
      refine ih2 (L + 1) w P u j σ _ (by omega) hw (by omega) h hP hl hu hM hr (fun x s he fs ts => ⟨_, rfl, c54x (d := e + 2 * f + 5) ho (KE x s (by rw [eL, andT_er he]) fs ts)⟩) fun c s hc fs ts hPs => ⟨_, rfl, ?_⟩
      obtain ⟨r1, r2, r3, r4, q, eq, l, -, -⟩ := rLv_ok (law := law) hn13 hb hm f (L + 1) w _ c hc
      have eq : c.1 = q ++ P := eq
      have l : q.length + j ≤ c.2.2 := l
      have hc1 : c.1.length ≤ c.2.2 := by rw [eq, List.length_append]; omega
      exact c54j (d := e + 2 * f + 3) hn hb hm ho ih2 hL4 hw (by omega) hJ J 0 c.1 c.2.1 c.2.2 s (by omega) ts hPs hc1 r2 (MkC_o hM ho fs) (by rw [fs.2.2.1]; exact hr) (fun x s' he f' t => KE x s' (by rw [eL, andT_ok hc]; exact he) (frO_tr fs f') t) fun c' s' hc' f' t hP' => KO c' s' (by rw [eL, andT_ok hc]; exact hc') (frO_tr fs f') t hP'
    refine K54 (B54_0 (o_s ho) ?_)
    rw [l5, l2]
    refine ⟨fun q5 => ⟨fun q2 => ?_, fun q2 => ?_⟩, fun q5 => ?_⟩
    · have eL : rLv (tok b n law) mk nm (f + 1) L w (P, u, j) = andT (rLv (tok b n law) mk nm f (L + 1) w (P, u, j)) (fun c => rJn (tok b n law) (rLv (tok b n law) mk nm f (L + 1) w) L 50 c) := by
        show (if L = 5 then _ else if L = 2 ∧ _ then _ else andT _ (fun c => rJn _ _ L (if L = 2 then 1 else 50) c)) = _
        rw [if_neg q5, if_neg (by omega), if_neg q2]
      refine (go 50 50 (by omega) (by omega) eL rfl).mono fun v s hg => ⟨fun _ => hg, fun z => absurd z q2⟩
    · subst q2
      have e0 : rLv (tok b n law) mk nm (f + 1) 2 w (P, u, j) = (if 2 = 2 ∧ (tok b n law j).1 = 1 ∧ (tok b n law j).2.2 = 7237492 then (if 6 < w then .error (flt 2 (tok b n law j)) else andT (rLv (tok b n law) mk nm f 2 (w + 1) (P, u, j + 1)) fun c => .ok ((6, 0) :: c.1, c.2)) else andT (rLv (tok b n law) mk nm f (2 + 1) w (P, u, j)) fun c => rJn (tok b n law) (rLv (tok b n law) mk nm f (2 + 1) w) 2 1 c) := rfl
      rw [w_not]
      refine ci (fun _ => c110 hn13 hb h (by decide)) ?_
      by_cases q : (tok b n law j).1 = 1 ∧ (tok b n law j).2.2 = 7237492
      · rw [if_pos q]
        rw [if_pos ⟨rfl, q⟩] at e0
        refine ⟨fun z => absurd z (by decide), fun _ => ?_⟩
        have l6 : nI w ≤ 6 ↔ w ≤ 6 := nI_leI (b := 6) (by omega) (by omega)
        rw [l6, nI_1]
        refine ⟨fun q6 => ?_, fun q6 => ?_⟩
        · rw [if_neg (by omega)] at e0
          refine c102 hn13 h fun s1 f1 t1 => ⟨rfl, ?_⟩
          have F1 := frO_1 ho f1
          refine ih2 2 (w + 1) P u (j + 1) s1 _ (by omega) (by omega) (by omega) t1 (LpC_1 hP f1) (by omega) hu (MkC_o hM ho F1) (by rw [F1.2.2.1]; exact hr) (fun x s he fs ts => ⟨_, rfl, fun _ => KE x s (by rw [e0, andT_er he]) (frO_tr F1 fs) ts, fun z => absurd rfl z⟩) fun c s hc fs ts hPs => ⟨_, rfl, fun z => absurd z (by decide), fun _ => ?_⟩
          obtain ⟨r1, r2, r3, r4, qq, eq, l, -, -⟩ := rLv_ok (law := law) hn13 hb hm f 2 (w + 1) _ c hc
          have eq : c.1 = qq ++ P := eq
          have l : qq.length + (j + 1) ≤ c.2.2 := l
          have hc1 : c.1.length < c.2.2 := by rw [eq, List.length_append]; omega
          exact c60 (x := (6, 0)) hPs (by omega) fun s2 f2 f2' hP2 => ⟨_, rfl, fun z => absurd z (by decide), fun _ => KO ((6, 0) :: c.1, c.2) s2 (by rw [e0, andT_ok hc]) (frO_tr F1 (frO_tr fs f2)) (TkC_o ho ts f2') hP2⟩
        · rw [if_pos (by omega)] at e0
          exact c109 (f := 2) hn13 h fun s fs ts => ⟨_, rfl, Or.inl rfl, KE _ s e0 (frO_1 ho fs) ts⟩
      · rw [if_neg q]
        rw [if_neg (by omega)] at e0
        refine ⟨fun _ => ?_, fun z => absurd rfl z⟩
        refine (go 1 1 (by omega) (by omega) e0 rfl).mono fun v s hg => ⟨fun z => absurd rfl z, fun _ => hg⟩
    · subst q5
      exact c57h (d := e + 2 * f + 2) hn hb ih1 hw (by omega) h hP hl hu hM hr (fun x s he fs ts => ⟨_, rfl, Or.inl rfl, KE x s he fs ts⟩) fun c s hc fs ts hPs => ⟨_, rfl, Or.inr rfl, KO c s hc fs ts hPs⟩
end cla
