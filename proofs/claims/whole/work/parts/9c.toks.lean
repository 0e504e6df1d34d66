/-! THE TAPE'S TOKENS: as values, and the class's scanning -/
def ext (P : Nat → Bool) : Nat → Nat → Nat
  | 0, i => i
  | f + 1, i => if P i then ext P f (i + 1) else i
theorem ext_eq {P : Nat → Bool} : ∀ {f i e : Nat}, (∀ k, i ≤ k → k < e → P k = true) → P e = false → i ≤ e → e ≤ i + f → ext P f i = e
  | 0, i, e, _, _, h1, h2 => by show i = e; omega
  | f + 1, i, e, h, he, h1, h2 => by
    show (if P i then ext P f (i + 1) else i) = e
    by_cases q : i = e
    · subst q; rw [he]; rfl
    · rw [if_pos (h i (Nat.le_refl _) (by omega))]
      exact ext_eq (fun k hk => h k (by omega)) he (by omega) (by omega)
theorem ext_ex {P : Nat → Bool} {n : Nat} (hP : ∀ k, P k = true → k < n) : ∀ g i, i ≤ n → n ≤ i + g → ∃ e, i ≤ e ∧ e ≤ n ∧ (∀ k, i ≤ k → k < e → P k = true) ∧ P e = false
  | 0, i, h1, h2 => ⟨i, Nat.le_refl _, h1, fun k hk h => by omega, Bool.eq_false_iff.mpr fun q => by have := hP i q; omega⟩
  | g + 1, i, h1, h2 => by
    cases q : P i
    · exact ⟨i, Nat.le_refl _, h1, fun k hk h => by omega, q⟩
    · have := hP i q
      obtain ⟨e, h3, h4, h5, h6⟩ := ext_ex hP g (i + 1) (by omega) (by omega)
      refine ⟨e, by omega, h4, fun k hk h => ?_, h6⟩
      by_cases z : k = i
      · rw [z]; exact q
      · exact h5 k (by omega) h
def isL (v : Nat) : Bool := decide (97 ≤ v) && decide (v ≤ 122)
def isD (v : Nat) : Bool := decide (48 ≤ v) && decide (v ≤ 57)
def isB (v : Nat) : Bool := decide (v = 32) || decide (v = 10)
def isG (v : Nat) : Bool := decide (v = 40) || (decide (v = 41) || (decide (v = 60) || (decide (v = 62) || (decide (v = 61) || (decide (v = 43) || (decide (v = 45) || decide (v = 42)))))))
def wv (b : Nat → Nat) (i : Nat) : Nat → Nat
  | 0 => 0
  | k + 1 => wv b i k * 256 + b (i + k)
def nv (b : Nat → Nat) (i : Nat) : Nat → Nat
  | 0 => 0
  | k + 1 => nv b i k * 10 + (b (i + k) - 48)
def inL (b : Nat → Nat) (n i : Nat) : Bool := decide (i < n) && isL (b i)
def inD (b : Nat → Nat) (n i : Nat) : Bool := decide (i < n) && isD (b i)
def inB (b : Nat → Nat) (n i : Nat) : Bool := decide (i < n) && isB (b i)
/-- the token that begins at p -/
def tkA (b : Nat → Nat) (n : Nat) (law : Bool) (p : Nat) : (Nat × Nat × Nat) × Nat :=
  if isL (b p) then ((if ext (inL b n) 1300 p - p ≤ 8 then 1 else 4, p, wv b p (ext (inL b n) 1300 p - p)), ext (inL b n) 1300 p)
  else if isD (b p) then ((if ext (inD b n) 1300 p - p ≤ 4 ∧ inL b n (ext (inD b n) 1300 p) = false then 2 else 4, p, nv b p (ext (inD b n) 1300 p - p)), ext (inD b n) 1300 p)
  else ((if b p = 59 ∨ (law = true ∧ isG (b p) = true) then 3 else 4, p, b p), p + 1)
def tkn (b : Nat → Nat) (n : Nat) (law : Bool) (i : Nat) : (Nat × Nat × Nat) × Nat :=
  if n ≤ ext (inB b n) 1300 i then ((0, ext (inB b n) 1300 i, 0), ext (inB b n) 1300 i) else tkA b n law (ext (inB b n) 1300 i)
def pos (b : Nat → Nat) (n : Nat) (law : Bool) : Nat → Nat
  | 0 => 0
  | t + 1 => (tkn b n law (pos b n law t)).2
def tok (b : Nat → Nat) (n : Nat) (law : Bool) (t : Nat) : Nat × Nat × Nat := (tkn b n law (pos b n law t)).1
theorem inB_lt {b : Nat → Nat} {n k : Nat} (h : inB b n k = true) : k < n := by
  unfold inB at h; rw [Bool.and_eq_true, decide_eq_true_eq] at h; exact h.1
theorem inL_lt {b : Nat → Nat} {n k : Nat} (h : inL b n k = true) : k < n := by
  unfold inL at h; rw [Bool.and_eq_true, decide_eq_true_eq] at h; exact h.1
theorem inD_lt {b : Nat → Nat} {n k : Nat} (h : inD b n k = true) : k < n := by
  unfold inD at h; rw [Bool.and_eq_true, decide_eq_true_eq] at h; exact h.1
section lex
variable {b : Nat → Nat} {n : Nat} {law : Bool}
theorem tkn_at {i e : Nat} (h1 : i ≤ e) (h2 : e ≤ i + 1300) (h3 : ∀ k, i ≤ k → k < e → inB b n k = true) (h4 : inB b n e = false) : tkn b n law i = if n ≤ e then ((0, e, 0), e) else tkA b n law e := by
  unfold tkn; rw [ext_eq h3 h4 h1 h2]
theorem tkn_sk {i : Nat} (hn : n ≤ 1300) (h : inB b n i = true) : tkn b n law i = tkn b n law (i + 1) := by
  have := inB_lt h
  obtain ⟨e, h1, h2, h3, h4⟩ := ext_ex (P := inB b n) (n := n) (fun k => inB_lt) n (i + 1) (by omega) (by omega)
  rw [tkn_at h1 (by omega) h3 h4, tkn_at (by omega) (by omega) (fun k hk h' => by
    by_cases z : k = i
    · rw [z]; exact h
    · exact h3 k (by omega) h') h4]
theorem tkn_no {i : Nat} (h : inB b n i = false) : tkn b n law i = if n ≤ i then ((0, i, 0), i) else tkA b n law i :=
  tkn_at (Nat.le_refl _) (by omega) (fun k h1 h2 => by omega) h
theorem tkA_b {p : Nat} (hn : n ≤ 1300) (hp : p < n) : (tkA b n law p).1.1 ≠ 0 ∧ (tkA b n law p).1.1 ≤ 4 ∧ (tkA b n law p).1.2.1 = p ∧ p < (tkA b n law p).2 ∧ (tkA b n law p).2 ≤ n := by
  unfold tkA
  by_cases h : isL (b p) = true
  · rw [if_pos h]
    have hp' : inL b n p = true := by unfold inL; rw [h]; simp [hp]
    obtain ⟨e, h1, h2, h3, h4⟩ := ext_ex (P := inL b n) (n := n) (fun k => inL_lt) n p (by omega) (by omega)
    rw [ext_eq h3 h4 h1 (by omega)]
    have : p ≠ e := fun z => by rw [← z, hp'] at h4; cases h4
    refine ⟨?_, ?_, rfl, by show p < e; omega, h2⟩ <;> (show _ ; dsimp only; split <;> omega)
  · rw [if_neg h]
    by_cases h' : isD (b p) = true
    · rw [if_pos h']
      have hp' : inD b n p = true := by unfold inD; rw [h']; simp [hp]
      obtain ⟨e, h1, h2, h3, h4⟩ := ext_ex (P := inD b n) (n := n) (fun k => inD_lt) n p (by omega) (by omega)
      rw [ext_eq h3 h4 h1 (by omega)]
      have : p ≠ e := fun z => by rw [← z, hp'] at h4; cases h4
      refine ⟨?_, ?_, rfl, by show p < e; omega, h2⟩ <;> (show _ ; dsimp only; split <;> omega)
    · rw [if_neg h']
      refine ⟨?_, ?_, rfl, by show p < p + 1; omega, by show p + 1 ≤ n; omega⟩ <;> (show _ ; dsimp only; split <;> omega)
/-- the end and what is not the end -/
theorem tkn_b {i : Nat} (hn : n ≤ 1300) (hi : i ≤ n) : (tkn b n law i).2 ≤ n ∧ (tkn b n law i).1.1 ≤ 4 ∧ (tkn b n law i).1.2.1 ≤ n ∧ ((tkn b n law i).1.1 = 0 → tkn b n law i = ((0, n, 0), n)) ∧ ((tkn b n law i).1.1 ≠ 0 → i < (tkn b n law i).2 ∧ (tkn b n law i).1.2.1 < n) := by
  obtain ⟨e, h1, h2, h3, h4⟩ := ext_ex (P := inB b n) (n := n) (fun k => inB_lt) n i (by omega) (by omega)
  rw [tkn_at h1 (by omega) h3 h4]
  by_cases q : n ≤ e
  · rw [if_pos q]
    have : e = n := by omega
    subst this
    exact ⟨Nat.le_refl _, by show 0 ≤ 4; omega, Nat.le_refl _, fun _ => rfl, fun h => absurd rfl h⟩
  · rw [if_neg q]
    obtain ⟨a1, a2, a3, a4, a5⟩ := tkA_b (law := law) hn (show e < n by omega) (b := b)
    exact ⟨a5, a2, by rw [a3]; omega, fun h => absurd h a1, fun _ => ⟨by omega, by rw [a3]; omega⟩⟩
theorem pos_le (hn : n ≤ 1300) : ∀ t, pos b n law t ≤ n
  | 0 => Nat.zero_le _
  | t + 1 => (tkn_b hn (pos_le hn t)).1
theorem tok_b (hn : n ≤ 1300) (t : Nat) : (tok b n law t).1 ≤ 4 ∧ (tok b n law t).2.1 ≤ n ∧ ((tok b n law t).1 = 0 → tok b n law t = (0, n, 0)) := by
  have := tkn_b (law := law) (b := b) hn (pos_le (law := law) (b := b) hn t)
  exact ⟨this.2.1, this.2.2.1, fun h => by unfold tok; rw [this.2.2.2.1 h]⟩
theorem tok_end (hn : n ≤ 1300) {t : Nat} (h : (tok b n law t).1 = 0) : tok b n law (t + 1) = tok b n law t := by
  have := (tkn_b (law := law) (b := b) hn (pos_le (law := law) (b := b) hn t)).2.2.2.1 h
  have e : pos b n law (t + 1) = n := by show (tkn b n law (pos b n law t)).2 = n; rw [this]
  have f : inB b n n = false := by unfold inB; simp
  show (tkn b n law (pos b n law (t + 1))).1 = (tkn b n law (pos b n law t)).1
  rw [e, this, tkn_no f, if_pos (Nat.le_refl _)]
theorem tok_ends (hn : n ≤ 1300) {T : Nat} (h : (tok b n law T).1 = 0) : ∀ k, tok b n law (T + k) = tok b n law T
  | 0 => rfl
  | k + 1 => by
    have e := tok_ends hn h k
    rw [← Nat.add_assoc, tok_end hn (by rw [e]; exact h), e]
theorem pos_gt (hn : n ≤ 1300) : ∀ t, (∀ s, s < t → (tok b n law s).1 ≠ 0) → t ≤ pos b n law t
  | 0, _ => Nat.zero_le _
  | t + 1, h => by
    have := pos_gt hn t fun s hs => h s (by omega)
    have := ((tkn_b (law := law) (b := b) hn (pos_le (law := law) (b := b) hn t)).2.2.2.2 (h t (by omega))).1
    show t + 1 ≤ (tkn b n law (pos b n law t)).2
    omega
theorem wv_lt (h : ∀ i, b i < 256) (i : Nat) : ∀ k, wv b i k < 256 ^ k
  | 0 => by show 0 < 1; omega
  | k + 1 => by
    have := wv_lt h i k
    have := h (i + k)
    show wv b i k * 256 + b (i + k) < 256 ^ k * 256
    omega
end lex
