/-! CONTRACTS: the class's reader: names -/
def Rds : Type := (Nat × (Nat → Nat) × (Nat → Nat) × (Nat → Bool)) × (Nat × (Nat → Nat) × ((Nat → Nat) × (Nat → Nat) × (Nat → Nat) × (Nat → Nat)) × (Nat → Nat → Nat)) × (Nat × (Nat → Nat) × (Nat → Nat) × (Nat → Nat))
def Rds.m (S : Rds) : Nat := S.1.1
def Rds.mn (S : Rds) : Nat → Nat := S.1.2.1
def Rds.mt (S : Rds) : Nat → Nat := S.1.2.2.1
def Rds.mv (S : Rds) : Nat → Bool := S.1.2.2.2
def Rds.c (S : Rds) : Nat := S.2.1.1
def Rds.cn (S : Rds) : Nat → Nat := S.2.1.2.1
def Rds.cj (S : Rds) : Nat → Nat := S.2.1.2.2.1.1
def Rds.cy (S : Rds) : Nat → Nat := S.2.1.2.2.1.2.1
def Rds.cg (S : Rds) : Nat → Nat := S.2.1.2.2.1.2.2.1
def Rds.cw (S : Rds) : Nat → Nat := S.2.1.2.2.1.2.2.2
def Rds.cs (S : Rds) : Nat → Nat → Nat := S.2.1.2.2.2
def Rds.t (S : Rds) : Nat := S.2.2.1
def Rds.ov (S : Rds) : Nat → Nat := S.2.2.2.1
def Rds.un (S : Rds) : Nat → Nat := S.2.2.2.2.1
def Rds.tp (S : Rds) : Nat → Nat := S.2.2.2.2.2
def upN {α : Type} (f : Nat → α) (k : Nat) (v : α) : Nat → α := fun i => if i = k then v else f i
theorem upN_at {α : Type} {f : Nat → α} {k : Nat} {v : α} : upN f k v k = v := if_pos rfl
theorem upN_ne {α : Type} {f : Nat → α} {k i : Nat} {v : α} (h : i ≠ k) : upN f k v i = f i := if_neg h
/-- what stands of a book while it is read; st: the steps of the case that is read -/
def RdS (r : Nat) (S : Rds) (st : Nat → Nat) (σ : Mem) : Prop :=
  ((r = 12 ∨ r = 22) ∧ σ.2.2 9 2 = r) ∧
  (σ.1 r 0 = nI S.m ∧ (∀ i, i < S.m → σ.2.1 (r + 1) i = jJ ((S.mn i : Nat) : Int)) ∧ (∀ i, i < S.m → σ.1 (r + 2) i = nI (S.mt i)) ∧ σ.1 r 3 = sX (fun i => decide (i < S.m) && !S.mv i)) ∧
  (σ.1 r 4 = nI S.c ∧ (∀ i, i < S.c → σ.2.1 10 i = jJ ((S.cn i : Nat) : Int)) ∧ (∀ i, i < S.c → σ.1 (r + 3) i = nI (S.cj i) ∧ σ.1 (r + 4) i = nI (S.cy i) ∧ σ.1 (r + 5) i = nI (S.cg i) ∧ σ.1 (r + 6) i = nI (S.cw i)) ∧
    (∀ i m, i < S.c → m < 6 → σ.1 (r + 7) (6 * i + m) = nI (S.cs i m)) ∧ (∀ m, m < 6 → σ.1 (r + 7) (6 * S.c + m) = nI (st m)) ∧ ∀ k, 6 * S.c + 6 ≤ k → k < 102 → σ.1 (r + 7) k = 0) ∧
  (σ.1 r 10 = nI S.t ∧ ∀ i, i < S.t → σ.1 (r + 8) i = nI (S.ov i) ∧ σ.1 (r + 9) i = nI (S.un i) ∧ σ.1 11 i = nI (S.tp i))
def RdsOk (S : Rds) : Prop :=
  (S.m ≤ 6 ∧ S.c ≤ 16 ∧ S.t ≤ 20) ∧
  (∀ i, i < S.m → S.mn i < 2 ^ 64 ∧ 1 ≤ S.mt i ∧ S.mt i ≤ 11) ∧
  (∀ i, i < S.c → S.cn i < 2 ^ 64 ∧ (S.cj i ≤ 9 ∧ S.cy i ≤ 99 ∧ S.cg i ≤ 240 ∧ 1 ≤ S.cw i ∧ S.cw i ≤ 4) ∧ ∀ m, m < 6 → (m < S.m → S.cs i m ≤ S.mt m) ∧ (S.m ≤ m → S.cs i m = 0)) ∧
  (∀ i, i < S.t → S.ov i < S.c ∧ S.un i < S.c) ∧
  (∀ i k, i < S.m → k < S.m → S.mn i = S.mn k → i = k) ∧ (∀ i k, i < S.c → k < S.c → S.cn i = S.cn k → i = k)
def rNew (tk : Nat → Tk) (S : Rds) (j : Nat) : Except Fa (Nat × Nat) :=
  if isNm (tk j) = true then (if fdN S.mn (tk j).2.2 S.m = none ∧ fdN S.cn (tk j).2.2 S.c = none then .ok ((tk j).2.2, j + 1) else .error (flt 3 (tk j))) else .error (flt 2 (tk j))
def rMk (tk : Nat → Tk) (S : Rds) (j : Nat) : Except Fa Nat :=
  if isNm (tk j) = true then (match fdN S.mn (tk j).2.2 S.m with | some x => .ok x | none => .error (flt 5 (tk j))) else .error (flt 2 (tk j))
def rCs (tk : Nat → Tk) (S : Rds) (j : Nat) : Except Fa (Nat × Nat) :=
  if isNm (tk j) = true then (match fdN S.cn (tk j).2.2 S.c with | some x => .ok (x, j + 1) | none => .error (flt 5 (tk j))) else .error (flt 2 (tk j))
theorem RdS_fr {r : Nat} {S : Rds} {st : Nat → Nat} {σ σ' : Mem} {ls : List Nat} (h : RdS r S st σ) (hf : Fr ls σ σ') (hl : ∀ x, (r ≤ x ∧ x ≤ r + 9) ∨ (9 ≤ x ∧ x ≤ 11) → x ∉ ls) : RdS r S st σ' := by
  obtain ⟨⟨h1, h2⟩, ⟨a1, a2, a3, a4⟩, ⟨b1, b2, b3, b4, b5, b6⟩, c1, c2⟩ := h
  have e : ∀ x, (r ≤ x ∧ x ≤ r + 9) ∨ (9 ≤ x ∧ x ≤ 11) → σ'.1 x = σ.1 x ∧ σ'.2.1 x = σ.2.1 x ∧ σ'.2.2 x = σ.2.2 x := fun x hx => hf x (hl x hx)
  have e0 := e r (by omega)
  have e1 := (e (r + 1) (by omega)).2.1
  have e2 := (e (r + 2) (by omega)).1
  have e3 := (e (r + 3) (by omega)).1
  have e4 := (e (r + 4) (by omega)).1
  have e5 := (e (r + 5) (by omega)).1
  have e6 := (e (r + 6) (by omega)).1
  have e7 := (e (r + 7) (by omega)).1
  have e8 := (e (r + 8) (by omega)).1
  have e9 := (e (r + 9) (by omega)).1
  have f9 := (e 9 (by omega)).2.2
  have f10 := (e 10 (by omega)).2.1
  have f11 := (e 11 (by omega)).1
  unfold RdS
  rw [e0.1, e1, e2, e3, e4, e5, e6, e7, e8, e9, f9, f10, f11]
  exact ⟨⟨h1, h2⟩, ⟨a1, a2, a3, a4⟩, ⟨b1, b2, b3, b4, b5, b6⟩, c1, c2⟩
theorem RdS_1 {r : Nat} {S : Rds} {st : Nat → Nat} {σ σ' : Mem} (h : RdS r S st σ) (hf : Fr [1] σ σ') : RdS r S st σ' :=
  RdS_fr h hf fun x hx => by rcases h.1.1 with q | q <;> (rw [q] at hx; simp; omega)
section nms
variable {Θ : Th} {d : Nat} {σ : Mem} {Q : Po} {b : Nat → Nat} {n : Nat} {law : Bool} {r : Nat} {S : Rds} {st : Nat → Nat}
theorem RdS_ho (hS : RdS r S st σ) : (shq r).1 = 1 ∧ r ≠ 0 ∧ σ.2.2 9 2 = r := ⟨bk_s hS.1.1, by rcases hS.1.1 with q | q <;> omega, hS.1.2⟩
/-- a mark's name among those of a book -/
theorem c10g {nm : Nat → Nat} {mk w : Nat} (ho : (shq r).1 = 1) (h0 : σ.1 r 0 = nI mk) (hm : mk ≤ 6) (hr : ∀ i, i < mk → σ.2.1 (r + 1) i = jJ ((nm i : Nat) : Int) ∧ nm i < 2 ^ 64) (hw : w < 2 ^ 64)
    (K1 : fdN nm w mk = none → Q (some (.int (-1))) σ) (K2 : ∀ x, fdN nm w mk = some x → Q (some (.int (nI x))) σ) : Cm Θ d 10 [.ref r, .long (jJ (w : Int))] σ Q := by
  refine K10 (B10_0 ho ?_)
  have start := loopN (P := fun i => (∀ k, k < i → nm k ≠ w) → G Θ d 10 2 [some (.ref r), some (.long (jJ (w : Int))), none, some (.int (nI i))] [] σ Q) mk ?_ ?_
  · exact start fun k hk => by omega
  · intro h
    refine B10_2 ho ⟨fun _ => K1 (fdN_none h), fun q => ?_⟩
    rw [h0] at q; exact absurd (nI_le (Nat.le_refl _) (by omega)) q
  · intro i hi ih h
    refine B10_2 ho ⟨fun q => ?_, fun _ => ⟨vp_in_nI (by omega) (by decide), ?_⟩⟩
    · rw [h0] at q; exact absurd q (nI_ge hi (by omega))
    · rw [nI_clamp (by omega), (hr i hi).1, lc_eq, jJ_inj (hr i hi).2 hw, nI_1]
      refine ⟨fun e => ih fun k hk => ?_, fun e => K2 i (fdN_some e h hi)⟩
      by_cases z : k = i
      · rw [z]; exact e
      · exact h k (by omega)
theorem c10 {w : Nat} (hS : RdS r S st σ) (hk : RdsOk S) (hw : w < 2 ^ 64)
    (K1 : fdN S.mn w S.m = none → Q (some (.int (-1))) σ) (K2 : ∀ x, fdN S.mn w S.m = some x → Q (some (.int (nI x))) σ) : Cm Θ d 10 [.ref r, .long (jJ (w : Int))] σ Q :=
  c10g (RdS_ho hS).1 hS.2.1.1 hk.1.1 (fun i hi => ⟨hS.2.1.2.1 i hi, (hk.2.1 i hi).1⟩) hw K1 K2
theorem c31 {w : Nat} (hS : RdS r S st σ) (hk : RdsOk S) (hw : w < 2 ^ 64)
    (K1 : fdN S.cn w S.c = none → Q (some (.int (-1))) σ) (K2 : ∀ x, fdN S.cn w S.c = some x → Q (some (.int (nI x))) σ) : Cm Θ d 31 [.ref 9, .long (jJ (w : Int))] σ Q := by
  obtain ⟨ho, hr0, hrr⟩ := RdS_ho hS
  have h4 := hS.2.2.1.1
  have hn10 := hS.2.2.1.2.1
  have hc := hk.1.2.1
  refine K31 (B31_0 ?_)
  have start := loopN (P := fun i => (∀ k, k < i → S.cn k ≠ w) → G Θ d 31 2 [some (.ref 9), some (.long (jJ (w : Int))), none, some (.int (nI i))] [] σ Q) S.c ?_ ?_
  · exact start fun k hk => by omega
  · intro h
    refine B31_2 ?_
    rw [hrr, h4]
    exact ⟨hr0, ho, fun _ => K1 (fdN_none h), fun q => absurd (nI_le (Nat.le_refl _) (by omega)) q⟩
  · intro i hi ih h
    refine B31_2 ?_
    rw [hrr, h4]
    refine ⟨hr0, ho, fun q => absurd q (nI_ge hi (by omega)), fun _ => ⟨vp_in_nI (by omega) (by decide), ?_⟩⟩
    rw [nI_clamp (by omega), hn10 i hi, lc_eq, jJ_inj (hk.2.2.1 i hi).1 hw, nI_1]
    refine ⟨fun e => ih fun k hk => ?_, fun e => K2 i (fdN_some e h hi)⟩
    by_cases z : k = i
    · rw [z]; exact e
    · exact h k (by omega)
theorem isNm_1 {t : Tk} (h : isNm t = true) : t.1 = 1 := by
  unfold isNm at h; rw [Bool.and_eq_true] at h; exact of_decide_eq_true h.1
theorem c28 {j : Nat} (hn : n ≤ 1300) (hb : ∀ i, b i < 256) (h : TkC b n law j σ) (hS : RdS r S st σ) (hk : RdsOk S)
    (KE : ∀ e σ', rNew (tok b n law) S j = .error e → Fr [1] σ σ' → FaC e σ' → Q (some (.long 0)) σ')
    (KO : ∀ σ' v, rNew (tok b n law) S j = .ok (v, j + 1) → 0 < v → v < 2 ^ 64 → Fr [1] σ σ' → TkC b n law (j + 1) σ' → Q (some (.long (jJ ((v : Nat) : Int)))) σ') : Cm Θ (d + 1) 28 [.ref 9] σ Q := by
  obtain ⟨ho, hr0, hrr⟩ := RdS_ho hS
  refine K28 (B28_0 ?_)
  refine ci (fun _ => c112 hn hb h) ?_
  by_cases q : isNm (tok b n law j) = true
  · rw [if_pos q]
    have q1 := isNm_1 q
    have bv := tok_v (law := law) hn hb j
    have hv : σ.2.1 1 5 = jJ (((tok b n law j).2.2 : Nat) : Int) := h.2.2.2.2.2 (by omega)
    have hlt := bv.2.1 (by omega)
    have er : ¬ (fdN S.mn (tok b n law j).2.2 S.m = none ∧ fdN S.cn (tok b n law j).2.2 S.c = none) → Ci Θ d 109 [.ref 1, .int 3] σ (fun v6 σ6 => Q (some (.long 0)) σ6) := fun z =>
      c109 (f := 3) hn h fun σ' f t => ⟨_, rfl, KE _ σ' (by unfold rNew; rw [if_pos q, if_neg z]) f t⟩
    refine ⟨fun _ => ?_, fun h => absurd h (by decide)⟩
    rw [hrr, hv]
    refine ⟨hr0, ho, ?_⟩
    refine c10 hS hk hlt (fun e1 => ⟨_, rfl, fun h => absurd h (by decide), fun _ => ?_⟩) fun x e1 => ⟨_, rfl, fun _ => er (by rw [e1]; simp), fun h => ?_⟩
    · refine c31 hS hk hlt (fun e2 => ⟨_, rfl, fun _ => ?_, fun h => absurd (by decide) h⟩) fun x e2 => ⟨_, rfl, fun h => absurd h (nI_pos (by have := (fdN_lt e2).1; have := hk.1.2.1; omega)), fun _ => er (by rw [e2]; simp)⟩
      exact c102 hn h fun σ' f t => ⟨rfl, KO σ' _ (by unfold rNew; rw [if_pos q, if_pos ⟨e1, e2⟩]) (bv.1 q1) hlt f t⟩
    · have := (fdN_lt e1).1
      have := hk.1.1
      exact absurd (nI_le (a := 0) (Nat.zero_le x) (by omega)) h
  · rw [if_neg q]
    refine ⟨fun h => absurd rfl h, fun _ => c109 (f := 2) hn h fun σ' f t => ⟨_, rfl, KE _ σ' (by unfold rNew; rw [if_neg q]) f t⟩⟩
theorem c29 {j : Nat} (hn : n ≤ 1300) (hb : ∀ i, b i < 256) (h : TkC b n law j σ) (hS : RdS r S st σ) (hk : RdsOk S)
    (KE : ∀ e σ', rMk (tok b n law) S j = .error e → Fr [1] σ σ' → FaC e σ' → Q (some (.int (-1))) σ')
    (KO : ∀ m, rMk (tok b n law) S j = .ok m → m < S.m → Q (some (.int (nI m))) σ) : Cm Θ (d + 1) 29 [.ref 9] σ Q := by
  obtain ⟨ho, hr0, hrr⟩ := RdS_ho hS
  refine K29 (B29_0 ?_)
  refine ci (fun _ => c112 hn hb h) ?_
  by_cases q : isNm (tok b n law j) = true
  · rw [if_pos q]
    have q1 := isNm_1 q
    have bv := tok_v (law := law) hn hb j
    have hv : σ.2.1 1 5 = jJ (((tok b n law j).2.2 : Nat) : Int) := h.2.2.2.2.2 (by omega)
    have hlt := bv.2.1 (by omega)
    refine ⟨fun _ => ?_, fun h => absurd h (by decide)⟩
    rw [hrr, hv]
    refine ⟨hr0, ho, ?_⟩
    refine c10 hS hk hlt (fun e1 => ⟨_, rfl, fun h => absurd h (by decide), fun _ => ?_⟩) fun x e1 => ⟨_, rfl, fun _ => ?_, fun h => ?_⟩
    · exact c109 (f := 5) hn h fun σ' f t => ⟨_, rfl, KE _ σ' (by unfold rMk; rw [if_pos q, e1]) f t⟩
    · exact KO x (by unfold rMk; rw [if_pos q, e1]) (fdN_lt e1).1
    · have := (fdN_lt e1).1
      have := hk.1.1
      exact absurd (nI_le (a := 0) (Nat.zero_le x) (by omega)) h
  · rw [if_neg q]
    refine ⟨fun h => absurd rfl h, fun _ => c109 (f := 2) hn h fun σ' f t => ⟨_, rfl, KE _ σ' (by unfold rMk; rw [if_neg q]) f t⟩⟩
theorem c30 {j : Nat} (hn : n ≤ 1300) (hb : ∀ i, b i < 256) (h : TkC b n law j σ) (hS : RdS r S st σ) (hk : RdsOk S)
    (KE : ∀ e σ', rCs (tok b n law) S j = .error e → Fr [1] σ σ' → FaC e σ' → Q (some (.int (-1))) σ')
    (KO : ∀ σ' c, rCs (tok b n law) S j = .ok (c, j + 1) → c < S.c → Fr [1] σ σ' → TkC b n law (j + 1) σ' → Q (some (.int (nI c))) σ') : Cm Θ (d + 1) 30 [.ref 9] σ Q := by
  obtain ⟨ho, hr0, hrr⟩ := RdS_ho hS
  refine K30 (B30_0 ?_)
  refine ci (fun _ => c112 hn hb h) ?_
  by_cases q : isNm (tok b n law j) = true
  · rw [if_pos q]
    have q1 := isNm_1 q
    have bv := tok_v (law := law) hn hb j
    have hv : σ.2.1 1 5 = jJ (((tok b n law j).2.2 : Nat) : Int) := h.2.2.2.2.2 (by omega)
    have hlt := bv.2.1 (by omega)
    refine ⟨fun _ => ?_, fun h => absurd h (by decide)⟩
    rw [hv]
    refine c31 hS hk hlt (fun e1 => ⟨_, rfl, fun h => absurd h (by decide), fun _ => ?_⟩) fun x e1 => ⟨_, rfl, fun _ => ?_, fun h => ?_⟩
    · exact c109 (f := 5) hn h fun σ' f t => ⟨_, rfl, KE _ σ' (by unfold rCs; rw [if_pos q, e1]) f t⟩
    · exact c102 hn h fun σ' f t => ⟨rfl, KO σ' x (by unfold rCs; rw [if_pos q, e1]) (fdN_lt e1).1 f t⟩
    · have := (fdN_lt e1).1
      have := hk.1.2.1
      exact absurd (nI_le (a := 0) (Nat.zero_le x) (by omega)) h
  · rw [if_neg q]
    refine ⟨fun h => absurd rfl h, fun _ => c109 (f := 2) hn h fun σ' f t => ⟨_, rfl, KE _ σ' (by unfold rCs; rw [if_neg q]) f t⟩⟩
end nms
