/-! A BOOK'S TEXT as values: what is read, the first fault; and the class's steps on the tape -/
abbrev Tk : Type := Nat × Nat × Nat
abbrev Fa : Type := Nat × Nat
def flt (f : Nat) (t : Tk) : Fa := (if t.1 = 4 then 1 else f, t.2.1)
def andT {α β : Type} (x : Except Fa α) (f : α → Except Fa β) : Except Fa β := match x with | .error e => .error e | .ok a => f a
theorem andT_ok {α β : Type} {x : Except Fa α} {f : α → Except Fa β} {a : α} (h : x = .ok a) : andT x f = f a := by rw [h]; rfl
theorem andT_er {α β : Type} {x : Except Fa α} {f : α → Except Fa β} {e : Fa} (h : x = .error e) : andT x f = .error e := by rw [h]; rfl
def rW (tk : Nat → Tk) (w j : Nat) : Except Fa Nat := if (tk j).1 = 1 ∧ (tk j).2.2 = w then .ok (j + 1) else .error (flt 2 (tk j))
def rG (tk : Nat → Tk) (c j : Nat) : Except Fa Nat := if (tk j).1 = 3 ∧ (tk j).2.2 = c then .ok (j + 1) else .error (flt 2 (tk j))
def rN (tk : Nat → Tk) (lo hi j : Nat) : Except Fa (Nat × Nat) := if (tk j).1 = 2 then (if lo ≤ (tk j).2.2 ∧ (tk j).2.2 ≤ hi then .ok ((tk j).2.2, j + 1) else .error (flt 4 (tk j))) else .error (flt 2 (tk j))
def rWN (tk : Nat → Tk) (w lo hi j : Nat) : Except Fa (Nat × Nat) := andT (rW tk w j) fun j => rN tk lo hi j
def nmL : List Nat := [0x6D61726B, 0x746F, 0x6E65766572, 0x63617365, 0x6A75646765, 0x696E, 0x676976656E, 0x776569676874, 0x746F6C64, 0x6F766572, 0x7768656E, 0x6C65617374, 0x6D6F7374, 0x6F72, 0x616E64, 0x6E6F74]
def isNm (t : Tk) : Bool := decide (t.1 = 1) && allB 16 (fun k => decide (t.2.2 ≠ nmL.getD k 0))
def fdN (nm : Nat → Nat) (w : Nat) : Nat → Option Nat
  | 0 => none
  | k + 1 => match fdN nm w k with
    | some x => some x
    | none => if nm k = w then some k else none
theorem fdN_none {nm : Nat → Nat} {w : Nat} : ∀ {k : Nat}, (∀ i, i < k → nm i ≠ w) → fdN nm w k = none
  | 0, _ => rfl
  | k + 1, h => by
    have := fdN_none (nm := nm) (w := w) (k := k) fun i hi => h i (by omega)
    show (match fdN nm w k with | some x => some x | none => if nm k = w then some k else none) = none
    rw [this]; exact if_neg (h k (by omega))
theorem fdN_some {nm : Nat → Nat} {w i : Nat} (hi : nm i = w) (hm : ∀ j, j < i → nm j ≠ w) : ∀ {k : Nat}, i < k → fdN nm w k = some i
  | 0, h => by omega
  | k + 1, h => by
    show (match fdN nm w k with | some x => some x | none => if nm k = w then some k else none) = some i
    by_cases q : i = k
    · subst q; rw [fdN_none hm]; exact if_pos hi
    · rw [fdN_some hi hm (k := k) (by omega)]
theorem fdN_lt {nm : Nat → Nat} {w x : Nat} : ∀ {k : Nat}, fdN nm w k = some x → x < k ∧ nm x = w
  | 0, h => by cases h
  | k + 1, h => by
    have h : (match fdN nm w k with | some x => some x | none => if nm k = w then some k else none) = some x := h
    cases q : fdN nm w k with
    | some y => rw [q] at h; cases h; have := fdN_lt q; exact ⟨by omega, this.2⟩
    | none =>
      rw [q] at h
      have h : (if nm k = w then some k else none) = some x := h
      split at h
      · cases h; exact ⟨by omega, by assumption⟩
      · cases h
theorem nnV_at {k : Nat} (hk : k < 16) : nnV k = jJ ((nmL.getD k 0 : Nat) : Int) := by
  have : ∀ x : Fin 16, nnV x.val = jJ ((nmL.getD x.val 0 : Nat) : Int) := by decide +kernel
  exact this ⟨k, hk⟩
theorem nmL_lt {k : Nat} (hk : k < 16) : nmL.getD k 0 < 2 ^ 64 := by
  have : ∀ x : Fin 16, nmL.getD x.val 0 < 2 ^ 64 := by decide +kernel
  exact this ⟨k, hk⟩
theorem wv_pos {b : Nat → Nat} {p : Nat} (h : b p ≠ 0) : ∀ k, 0 < wv b p (k + 1)
  | 0 => by show 0 < 0 * 256 + b (p + 0); simp; omega
  | k + 1 => by
    have := wv_pos h k
    show 0 < wv b p (k + 1) * 256 + b (p + (k + 1))
    omega
theorem nv_lt {b : Nat → Nat} {p : Nat} : ∀ k, (∀ i, i < k → isD (b (p + i)) = true) → nv b p k < 10 ^ k
  | 0, _ => by show 0 < 1; omega
  | k + 1, h => by
    have h1 := nv_lt (b := b) (p := p) k fun i hi => h i (by omega)
    have h2 := h k (by omega)
    unfold isD at h2; rw [Bool.and_eq_true, decide_eq_true_eq, decide_eq_true_eq] at h2
    show nv b p k * 10 + (b (p + k) - 48) < 10 ^ k * 10
    omega
section prs
variable {Θ : Th} {d : Nat} {σ : Mem} {Q : Po} {b : Nat → Nat} {n : Nat} {law : Bool}
/-- how great a token's value is -/
theorem tok_v (hn : n ≤ 1300) (hb : ∀ i, b i < 256) (t : Nat) : ((tok b n law t).1 = 1 → 0 < (tok b n law t).2.2) ∧ ((tok b n law t).1 ≠ 4 → (tok b n law t).2.2 < 2 ^ 64) ∧ ((tok b n law t).1 = 2 → (tok b n law t).2.2 < 10000) ∧ ((tok b n law t).1 = 3 → (tok b n law t).2.2 < 256) := by
  obtain ⟨i, hi, hil⟩ : ∃ i, pos b n law t = i ∧ i ≤ n := ⟨_, rfl, pos_le hn t⟩
  unfold tok
  rw [hi]
  obtain ⟨p, h1, h2, h3, h4⟩ := ext_ex (P := inB b n) (n := n) (fun k => inB_lt) n i (by omega) (by omega)
  rw [tkn_at h1 (by omega) h3 h4]
  by_cases q : n ≤ p
  · rw [if_pos q]
    exact ⟨fun h => (by cases h), fun _ => (by show 0 < 2 ^ 64; omega), fun h => (by cases h), fun h => (by cases h)⟩
  · rw [if_neg q]
    have hp : p < n := by omega
    unfold tkA
    by_cases q1 : isL (b p) = true
    · rw [if_pos q1]
      obtain ⟨e, g1, g2, g3, g4⟩ := ext_ex (P := inL b n) (n := n) (fun k => inL_lt) n p (by omega) (by omega)
      rw [ext_eq g3 g4 g1 (by omega)]
      have ne : p ≠ e := fun z => by rw [← z, inL_b hp, q1] at g4; cases g4
      obtain ⟨k, hk⟩ : ∃ k, e - p = k + 1 := ⟨e - p - 1, by omega⟩
      have hb0 : b p ≠ 0 := fun z => by rw [z] at q1; exact absurd q1 (by decide)
      refine ⟨fun _ => by show 0 < wv b p (e - p); rw [hk]; exact wv_pos hb0 k, fun h => ?_, fun h => ?_, fun h => ?_⟩
      · have h8 : e - p ≤ 8 := (Classical.em (e - p ≤ 8)).resolve_right fun z => h (if_neg z)
        have w8 : 256 ^ (e - p) ≤ 256 ^ 8 := Nat.pow_le_pow_right (by decide) h8
        exact Nat.lt_of_lt_of_le (wv_lt hb p (e - p)) w8
      · have h : (if e - p ≤ 8 then 1 else 4) = 2 := h
        split at h <;> omega
      · have h : (if e - p ≤ 8 then 1 else 4) = 3 := h
        split at h <;> omega
    · rw [if_neg q1]
      by_cases q2 : isD (b p) = true
      · rw [if_pos q2]
        obtain ⟨e, g1, g2, g3, g4⟩ := ext_ex (P := inD b n) (n := n) (fun k => inD_lt) n p (by omega) (by omega)
        rw [ext_eq g3 g4 g1 (by omega)]
        have key : (if e - p ≤ 4 ∧ inL b n e = false then 2 else 4) ≠ 4 → nv b p (e - p) < 10000 := fun h => by
          have h8 : e - p ≤ 4 := ((Classical.em (e - p ≤ 4 ∧ inL b n e = false)).resolve_right fun z => h (if_neg z)).1
          have w8 : 10 ^ (e - p) ≤ 10 ^ 4 := Nat.pow_le_pow_right (by decide) h8
          have := nv_lt (b := b) (p := p) (e - p) fun i hi => by rw [← inD_b (n := n) (by omega)]; exact g3 _ (by omega) (by omega)
          exact Nat.lt_of_lt_of_le this w8
        refine ⟨fun h => ?_, fun h => ?_, fun h => ?_, fun h => ?_⟩
        · have h : (if e - p ≤ 4 ∧ inL b n e = false then 2 else 4) = 1 := h
          split at h <;> omega
        · exact Nat.lt_trans (key h) (by decide)
        · exact key (by have h : (if e - p ≤ 4 ∧ inL b n e = false then 2 else 4) = 2 := h
                        rw [h]; decide)
        · have h : (if e - p ≤ 4 ∧ inL b n e = false then 2 else 4) = 3 := h
          split at h <;> omega
      · rw [if_neg q2]
        refine ⟨fun h => ?_, fun h => ?_, fun h => ?_, fun h => hb p⟩
        · have h : (if b p = 59 ∨ (law = true ∧ isG (b p) = true) then 3 else 4) = 1 := h
          split at h <;> omega
        · exact Nat.lt_trans (hb p) (by decide)
        · have h : (if b p = 59 ∨ (law = true ∧ isG (b p) = true) then 3 else 4) = 2 := h
          split at h <;> omega
/-- the class's fault -/
def FaC (e : Fa) (σ : Mem) : Prop := σ.1 1 1 = nI e.1 ∧ σ.1 1 2 = nI e.2
theorem kd_eq {k c : Nat} (hk : k ≤ 4) (hc : c ≤ 4) : nI k = nI c ↔ k = c := nI_eq (by omega) (by omega)
theorem c109 {j f : Nat} (hn : n ≤ 1300) (h : TkC b n law j σ) (K : ∀ σ', Fr [1] σ σ' → FaC (flt f (tok b n law j)) σ' → Q (some (.int 0)) σ') : Cm Θ d 109 [.ref 1, .int (nI f)] σ Q := by
  obtain ⟨-, -, -, k1, k2, -⟩ := h
  have b4 := (tok_b (law := law) (b := b) hn j).1
  have l : nI (tok b n law j).1 = 4 ↔ (tok b n law j).1 = 4 := kd_eq (c := 4) b4 (by omega)
  refine K109 (B109_0 ?_)
  rw [k1, l]
  refine ⟨fun h => K _ ((Fr.rfl.I (by decide)).I (by decide)) ⟨?_, ?_⟩, fun h => K _ ((Fr.rfl.I (by decide)).I (by decide)) ⟨?_, ?_⟩⟩
  · rw [sI_of _ _ (by omega), sI_at]; unfold flt; rw [if_neg h]
  · rw [sI_at, sI_of _ _ (by omega), k2]; rfl
  · rw [sI_of _ _ (by omega), sI_at]; unfold flt; rw [if_pos h]; rfl
  · rw [sI_at, sI_of _ _ (by omega), k2]; rfl
theorem c110 {j w : Nat} (hn : n ≤ 1300) (hb : ∀ i, b i < 256) (h : TkC b n law j σ) (hw : w < 2 ^ 64) (k : Q (some (.int (if (tok b n law j).1 = 1 ∧ (tok b n law j).2.2 = w then 1 else 0))) σ) : Cm Θ d 110 [.ref 1, .long (jJ (w : Int))] σ Q := by
  obtain ⟨-, -, -, k1, -, k3⟩ := h
  have b4 := (tok_b (law := law) (b := b) hn j).1
  have bv := (tok_v (law := law) hn hb j).2.1
  have l : nI (tok b n law j).1 = 1 ↔ (tok b n law j).1 = 1 := kd_eq (c := 1) b4 (by omega)
  refine K110 (B110_0 ?_)
  rw [k1, l]
  refine ⟨fun h => ?_, fun h => ?_⟩
  · rw [if_neg (by omega)] at k; exact k
  · rw [k3 (by omega), lc_eq, jJ_inj (bv (by omega)) hw]
    refine ⟨fun h' => ?_, fun h' => ?_⟩
    · rw [if_neg (by omega)] at k; exact k
    · rw [if_pos ⟨h, h'⟩] at k; exact k
theorem c111 {j w : Nat} (hn : n ≤ 1300) (hb : ∀ i, b i < 256) (h : TkC b n law j σ) (hw : w < 256) (k : Q (some (.int (if (tok b n law j).1 = 3 ∧ (tok b n law j).2.2 = w then 1 else 0))) σ) : Cm Θ d 111 [.ref 1, .int (nI w)] σ Q := by
  obtain ⟨-, -, -, k1, -, k3⟩ := h
  have b4 := (tok_b (law := law) (b := b) hn j).1
  have bv := (tok_v (law := law) hn hb j).2.1
  have l : nI (tok b n law j).1 = 3 ↔ (tok b n law j).1 = 3 := kd_eq (c := 3) b4 (by omega)
  refine K111 (B111_0 ?_)
  rw [k1, l]
  refine ⟨fun h => ?_, fun h => ?_⟩
  · rw [if_neg (by omega)] at k; exact k
  · rw [k3 (by omega), nI_64 (by omega), lc_eq, jJ_inj (bv (by omega)) (by omega)]
    refine ⟨fun h' => ?_, fun h' => ?_⟩
    · rw [if_neg (by omega)] at k; exact k
    · rw [if_pos ⟨h, h'⟩] at k; exact k
theorem c112 {j : Nat} (hn : n ≤ 1300) (hb : ∀ i, b i < 256) (h : TkC b n law j σ) (k : Q (some (.int (if isNm (tok b n law j) then 1 else 0))) σ) : Cm Θ d 112 [.ref 1] σ Q := by
  obtain ⟨-, -, -, k1, -, k3⟩ := h
  have b4 := (tok_b (law := law) (b := b) hn j).1
  have bv := (tok_v (law := law) hn hb j).2.1
  have l : nI (tok b n law j).1 = 1 ↔ (tok b n law j).1 = 1 := kd_eq (c := 1) b4 (by omega)
  have no : ∀ i, isNm (tok b n law j) = false → G Θ d 112 16 [some (.ref 1), some (.int 0), some (.int i)] [] σ Q := fun i h => by
    rw [if_neg (by rw [h]; decide)] at k
    exact B112_16 ⟨fun _ => ⟨Or.inl rfl, k⟩, fun _ => ⟨fun _ => ⟨Or.inl rfl, k⟩, fun h => absurd rfl h⟩⟩
  refine K112 (B112_0 ?_)
  rw [k1, l]
  refine ⟨fun h => no 0 ?_, fun h => ?_⟩
  · unfold isNm; rw [decide_eq_false h]; rfl
  · have start := loopN (P := fun i => (∀ m, m < i → (tok b n law j).2.2 ≠ nmL.getD m 0) → G Θ d 112 16 [some (.ref 1), some (.int 1), some (.int (nI i))] [] σ Q) 16 ?_ ?_
    · exact start fun m hm => by omega
    · intro hm
      have hT : isNm (tok b n law j) = true := by
        unfold isNm; rw [decide_eq_true h, (allB_iff 16).mpr fun k hk => decide_eq_true (hm k hk)]; rfl
      rw [if_pos hT] at k
      exact B112_16 ⟨fun _ => ⟨Or.inr rfl, k⟩, fun h => absurd (nI_le (a := 16) (Nat.le_refl _) (by omega)) h⟩
    · intro i hi ih hm
      refine B112_16 ⟨fun h => absurd h (nI_ge (b := 16) hi (by omega)), fun _ => ⟨fun h => absurd h (by decide), fun _ => ⟨vp_in_nI hi (by decide), ?_⟩⟩⟩
      rw [nI_clamp (by omega), k3 (by omega), nnV_at hi, lc_eq, jJ_inj (bv (by omega)) (nmL_lt hi), nI_1]
      refine ⟨fun e => no _ ?_, fun e => ih fun m hm' => ?_⟩
      · unfold isNm
        have : allB 16 (fun k => decide ((tok b n law j).2.2 ≠ nmL.getD k 0)) = false := Bool.eq_false_iff.mpr fun q => by
          have q := (allB_iff 16).mp q i hi
          exact (of_decide_eq_true q) e
        rw [this, Bool.and_false]
      · by_cases z : m = i
        · rw [z]; exact e
        · exact hm m (by omega)
theorem c113 {j w : Nat} (hn : n ≤ 1300) (hb : ∀ i, b i < 256) (h : TkC b n law j σ) (hw : w < 2 ^ 64)
    (KE : ∀ e σ', rW (tok b n law) w j = .error e → Fr [1] σ σ' → FaC e σ' → Q (some (.int 0)) σ')
    (KO : ∀ σ', rW (tok b n law) w j = .ok (j + 1) → Fr [1] σ σ' → TkC b n law (j + 1) σ' → Q (some (.int 1)) σ') : Cm Θ (d + 1) 113 [.ref 1, .long (jJ (w : Int))] σ Q := by
  refine K113 (B113_0 ?_)
  refine ci (fun _ => c110 hn hb h hw) ?_
  by_cases q : (tok b n law j).1 = 1 ∧ (tok b n law j).2.2 = w
  · rw [if_pos q]
    exact ⟨fun _ => c102 hn h fun σ' f t => ⟨rfl, KO σ' (if_pos q) f t⟩, fun h => absurd h (by decide)⟩
  · rw [if_neg q]
    exact ⟨fun h => absurd rfl h, fun _ => c109 (f := 2) hn h fun σ' f t => ⟨_, rfl, Or.inl rfl, KE _ σ' (if_neg q) f t⟩⟩
theorem c114 {j w : Nat} (hn : n ≤ 1300) (hb : ∀ i, b i < 256) (h : TkC b n law j σ) (hw : w < 256)
    (KE : ∀ e σ', rG (tok b n law) w j = .error e → Fr [1] σ σ' → FaC e σ' → Q (some (.int 0)) σ')
    (KO : ∀ σ', rG (tok b n law) w j = .ok (j + 1) → Fr [1] σ σ' → TkC b n law (j + 1) σ' → Q (some (.int 1)) σ') : Cm Θ (d + 1) 114 [.ref 1, .int (nI w)] σ Q := by
  refine K114 (B114_0 ?_)
  refine ci (fun _ => c111 hn hb h hw) ?_
  by_cases q : (tok b n law j).1 = 3 ∧ (tok b n law j).2.2 = w
  · rw [if_pos q]
    exact ⟨fun _ => c102 hn h fun σ' f t => ⟨rfl, KO σ' (if_pos q) f t⟩, fun h => absurd h (by decide)⟩
  · rw [if_neg q]
    exact ⟨fun h => absurd rfl h, fun _ => c109 (f := 2) hn h fun σ' f t => ⟨_, rfl, Or.inl rfl, KE _ σ' (if_neg q) f t⟩⟩
theorem jJ_32 {v : Nat} (h : v < 2147483648) : (jJ (v : Int)).toInt32 = nI v := by
  rw [← nI_64 h]
  exact Int32.toInt32_toInt64 _
theorem c115 {j lo hi : Nat} (hn : n ≤ 1300) (hb : ∀ i, b i < 256) (h : TkC b n law j σ) (h1 : lo < 1000) (h2 : hi < 1000)
    (KE : ∀ e σ', rN (tok b n law) lo hi j = .error e → Fr [1] σ σ' → FaC e σ' → Q (some (.int (-1))) σ')
    (KO : ∀ σ' v, rN (tok b n law) lo hi j = .ok (v, j + 1) → lo ≤ v → v ≤ hi → Fr [1] σ σ' → TkC b n law (j + 1) σ' → Q (some (.int (nI v))) σ') : Cm Θ (d + 1) 115 [.ref 1, .int (nI lo), .int (nI hi)] σ Q := by
  have h0 := id h
  obtain ⟨-, -, -, k1, -, k3⟩ := h
  have b4 := (tok_b (law := law) (b := b) hn j).1
  have bv := (tok_v (law := law) hn hb j).2.2.1
  have l : nI (tok b n law j).1 = 2 ↔ (tok b n law j).1 = 2 := kd_eq (c := 2) b4 (by omega)
  refine K115 (B115_0 ?_)
  rw [k1, l]
  refine ⟨fun q => ?_, fun q => c109 (f := 2) hn h0 fun σ' f t => ⟨_, rfl, KE _ σ' (if_neg q) f t⟩⟩
  have := bv q
  rw [k3 (by omega), jJ_32 (by omega), nI_ltI (by omega) (by omega), nI_leI (by omega) (by omega)]
  have er : ¬ (lo ≤ (tok b n law j).2.2 ∧ (tok b n law j).2.2 ≤ hi) → Ci Θ d 109 [.ref 1, .int 4] σ (fun v6 σ6 => Q (some (.int (-1))) σ6) := fun z => by
    refine c109 (f := 4) hn h0 fun σ' f t => ⟨_, rfl, KE _ σ' ?_ f t⟩
    unfold rN; rw [if_pos q, if_neg z]
  refine ⟨fun z => er (by omega), fun z => ⟨fun z' => ?_, fun z' => er (by omega)⟩⟩
  refine c102 hn h0 fun σ' f t => ⟨rfl, KO σ' _ ?_ (by omega) (by omega) f t⟩
  unfold rN; rw [if_pos q, if_pos ⟨by omega, z'⟩]
theorem c116 {j w lo hi : Nat} (hn : n ≤ 1300) (hb : ∀ i, b i < 256) (h : TkC b n law j σ) (hw : w < 2 ^ 64) (h1 : lo < 1000) (h2 : hi < 1000)
    (KE : ∀ e σ', rWN (tok b n law) w lo hi j = .error e → Fr [1] σ σ' → FaC e σ' → Q (some (.int (-1))) σ')
    (KO : ∀ σ' v, rWN (tok b n law) w lo hi j = .ok (v, j + 2) → lo ≤ v → v ≤ hi → Fr [1] σ σ' → TkC b n law (j + 2) σ' → Q (some (.int (nI v))) σ') : Cm Θ (d + 2) 116 [.ref 1, .long (jJ (w : Int)), .int (nI lo), .int (nI hi)] σ Q := by
  refine K116 (B116_0 ?_)
  refine c113 hn hb h hw (fun e σ' he f t => ⟨_, rfl, fun _ => KE e σ' (andT_er he) f t, fun h => absurd rfl h⟩) fun σ' he f t => ⟨_, rfl, fun h => absurd h (by decide), fun _ => ?_⟩
  refine c115 hn hb t h1 h2 (fun e σ'' he' f' t' => ⟨_, rfl, KE e σ'' (by unfold rWN; rw [andT_ok he]; exact he') (f.tr f') t'⟩) fun σ'' v he' l1 l2 f' t' => ⟨_, rfl, KO σ'' v (by unfold rWN; rw [andT_ok he]; exact he') l1 l2 (f.tr f') t'⟩
end prs
