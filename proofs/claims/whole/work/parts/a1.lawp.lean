/-! A LAWS' TEXT as values: programs of signs (the latest first), how they are read, what they are worth -/
abbrev Lp : Type := List (Nat × Nat) × Nat × Nat
def fct (t : Tk) : Option Nat := if t.1 = 1 ∧ t.2.2 = 457236047717 then some 2 else if t.1 = 1 ∧ t.2.2 = 26990 then some 3 else if t.1 = 1 ∧ t.2.2 = 444150998382 then some 4 else if t.1 = 1 ∧ t.2.2 = 131277443786868 then some 5 else none
def sgL (t : Tk) (L : Nat) : Option Nat :=
  if L = 0 then (if t.1 = 1 ∧ t.2.2 = 28530 then some 7 else none) else if L = 1 then (if t.1 = 1 ∧ t.2.2 = 6385252 then some 8 else none)
  else if L = 2 then (if t.1 = 3 ∧ t.2.2 = 60 then some 9 else if t.1 = 3 ∧ t.2.2 = 62 then some 10 else if t.1 = 3 ∧ t.2.2 = 61 then some 11 else none)
  else if L = 3 then (if t.1 = 3 ∧ t.2.2 = 43 then some 12 else if t.1 = 3 ∧ t.2.2 = 45 then some 13 else none) else if L = 4 then (if t.1 = 3 ∧ t.2.2 = 42 then some 14 else none) else none
def rUn (tk : Nat → Tk) (mk : Nat) (nm : Nat → Nat) (j : Nat) : Except Fa (Nat × Nat) :=
  if (tk j).1 = 2 then .ok (0, (tk j).2.2) else if isNm (tk j) = true then (match fdN nm (tk j).2.2 mk with | some m => .ok (1, m) | none => .error (flt 5 (tk j)))
  else match fct (tk j) with | some f => .ok (f, 0) | none => .error (flt 2 (tk j))
def rJn (tk : Nat → Tk) (R : Lp → Except Fa Lp) (L : Nat) : Nat → Lp → Except Fa Lp
  | 0, a => .ok a
  | g + 1, a => match sgL (tk a.2.2) L with | none => .ok a | some o => andT (R (a.1, a.2.1, a.2.2 + 1)) fun c => rJn tk R L g ((o, 0) :: c.1, c.2)
def rLv (tk : Nat → Tk) (mk : Nat) (nm : Nat → Nat) : Nat → Nat → Nat → Lp → Except Fa Lp
  | 0, _, _, _ => .error (0, 0)
  | f + 1, L, w, a =>
    if L = 5 then (if 50 ≤ a.2.1 then .error (flt 2 (tk a.2.2)) else if (tk a.2.2).1 = 3 ∧ (tk a.2.2).2.2 = 40 then (if 6 < w then .error (flt 2 (tk a.2.2)) else andT (rLv tk mk nm f 0 (w + 1) (a.1, a.2.1 + 1, a.2.2 + 1)) fun c => andT (rG tk 41 c.2.2) fun j' => .ok (c.1, c.2.1, j'))
      else andT (rUn tk mk nm a.2.2) fun x => .ok (x :: a.1, a.2.1 + 1, a.2.2 + 1))
    else if L = 2 ∧ (tk a.2.2).1 = 1 ∧ (tk a.2.2).2.2 = 7237492 then (if 6 < w then .error (flt 2 (tk a.2.2)) else andT (rLv tk mk nm f 2 (w + 1) (a.1, a.2.1, a.2.2 + 1)) fun c => .ok ((6, 0) :: c.1, c.2))
    else andT (rLv tk mk nm f (L + 1) w a) fun c => rJn tk (rLv tk mk nm f (L + 1) w) L (if L = 2 then 1 else 50) c
def opOk (mk : Nat) (x : Nat × Nat) : Prop := x.1 ≤ 14 ∧ x.2 < 10000 ∧ (x.1 = 1 → x.2 < mk)
def dp1 (x : Nat × Nat) (k : Nat) : Option Nat := if x.1 < 6 then (if k < 50 then some (k + 1) else none) else if x.1 = 6 then (if 1 ≤ k then some k else none) else (if 2 ≤ k then some (k - 1) else none)
def dpq : List (Nat × Nat) → Nat → Option Nat
  | [], k => some k
  | x :: q, k => (dpq q k).bind (dp1 x)
theorem dpq_app (p : List (Nat × Nat)) : ∀ (q : List (Nat × Nat)) (k : Nat), dpq (p ++ q) k = (dpq q k).bind (dpq p) := by
  induction p with
  | nil => intro q k; show dpq q k = (dpq q k).bind some; simp
  | cons x p ih =>
    intro q k
    show (dpq (p ++ q) k).bind (dp1 x) = _
    rw [ih q k]
    cases dpq q k <;> rfl
def LvR (mk n : Nat) (a c : Lp) : Prop := a.2.1 < c.2.1 ∧ c.2.1 ≤ 50 ∧ a.2.2 < c.2.2 ∧ c.2.2 ≤ n ∧ ∃ q, c.1 = q ++ a.1 ∧ q.length + a.2.2 ≤ c.2.2 ∧ (∀ x, x ∈ q → opOk mk x) ∧ ∀ k, k + (c.2.1 - a.2.1) ≤ 50 → dpq q k = some (k + 1)
theorem LvR_jn {mk n o : Nat} {a0 a c : Lp} (h : LvR mk n a0 a) (h' : LvR mk n (a.1, a.2.1, a.2.2 + 1) c) (ho : 7 ≤ o ∧ o ≤ 14) : LvR mk n a0 ((o, 0) :: c.1, c.2) := by
  obtain ⟨h1, h2, h3, h4, q, e, l, x, dq⟩ := h
  obtain ⟨g1, g2, g3, g4, r, e', l', x', dr⟩ := h'
  have g1 : a.2.1 < c.2.1 := g1
  have g3 : a.2.2 + 1 < c.2.2 := g3
  have e' : c.1 = r ++ a.1 := e'
  have l' : r.length + (a.2.2 + 1) ≤ c.2.2 := l'
  have dr : ∀ k, k + (c.2.1 - a.2.1) ≤ 50 → dpq r k = some (k + 1) := dr
  refine ⟨(by show a0.2.1 < c.2.1; omega), g2, (by show a0.2.2 < c.2.2; omega), g4, (o, 0) :: (r ++ q), ?_, ?_, ?_, ?_⟩
  · show (o, 0) :: c.1 = _
    rw [e', e]; simp
  · show ((o, 0) :: (r ++ q)).length + a0.2.2 ≤ c.2.2
    simp only [List.length_cons, List.length_append]; omega
  · intro y hy
    rcases List.mem_cons.mp hy with hy | hy
    · rw [hy]; exact ⟨ho.2, (by show 0 < 10000; omega), fun z => by have z : o = 1 := z; omega⟩
    · rcases List.mem_append.mp hy with hy | hy
      · exact x' y hy
      · exact x y hy
  · intro k hk
    have hk : k + (c.2.1 - a0.2.1) ≤ 50 := hk
    show (dpq (r ++ q) k).bind (dp1 (o, 0)) = _
    rw [dpq_app, dq k (by omega)]
    show (dpq r (k + 1)).bind (dp1 (o, 0)) = _
    rw [dr (k + 1) (by omega)]
    show dp1 (o, 0) (k + 1 + 1) = _
    unfold dp1
    rw [if_neg (show ¬ o < 6 by omega), if_neg (show ¬ o = 6 by omega), if_pos (by omega)]
    rfl
theorem sgL_b {t : Tk} {L o : Nat} (h : sgL t L = some o) : L ≤ 4 ∧ 7 ≤ o ∧ o ≤ 14 ∧ (L = 0 → o = 7) ∧ (L = 1 → o = 8) ∧ (L = 2 → 9 ≤ o ∧ o ≤ 11) ∧ (L = 3 → 12 ≤ o ∧ o ≤ 13) ∧ (L = 4 → o = 14) := by
  unfold sgL at h
  repeat' split at h
  all_goals first | (cases h; done) | (cases h; omega)
theorem rJn_ok {tk : Nat → Tk} {mk n L : Nat} {R : Lp → Except Fa Lp} (hR : ∀ a c, R a = .ok c → LvR mk n a c) : ∀ (g : Nat) (a0 a c : Lp), LvR mk n a0 a → rJn tk R L g a = .ok c → LvR mk n a0 c
  | 0, a0, a, c, h, e => by cases e; exact h
  | g + 1, a0, a, c, h, e => by
    unfold rJn at e
    cases q : sgL (tk a.2.2) L with
    | none => rw [q] at e; cases e; exact h
    | some o =>
      rw [q] at e
      cases q2 : R (a.1, a.2.1, a.2.2 + 1) with
      | error x => rw [q2] at e; cases e
      | ok c' =>
        rw [q2] at e
        have := sgL_b q
        exact rJn_ok hR g a0 _ c (LvR_jn h (hR _ _ q2) (by omega)) e
theorem fct_b {t : Tk} {f : Nat} (h : fct t = some f) : 2 ≤ f ∧ f ≤ 5 := by
  unfold fct at h
  repeat' split at h
  all_goals first | (cases h; done) | (cases h; omega)
theorem rG_ok {tk : Nat → Tk} {c j j' : Nat} (h : rG tk c j = .ok j') : j' = j + 1 := by
  unfold rG at h
  split at h
  · cases h; rfl
  · cases h
theorem rG_1 {tk : Nat → Tk} {c j j' : Nat} (h : rG tk c j = .ok j') : (tk j).1 ≠ 0 := by
  unfold rG at h
  split at h
  · rename_i q; omega
  · cases h
theorem fct_1 {t : Tk} {f : Nat} (h : fct t = some f) : t.1 = 1 := by
  unfold fct at h
  repeat' split at h
  all_goals first | (cases h; done) | (rename_i q; exact q.1)
theorem rUn_1 {tk : Nat → Tk} {mk j : Nat} {nm : Nat → Nat} {x : Nat × Nat} (h : rUn tk mk nm j = .ok x) : (tk j).1 ≠ 0 := by
  unfold rUn at h
  split at h
  · rename_i q; omega
  · split at h
    · rename_i q; have := isNm_1 q; omega
    · split at h
      · rename_i f hf; have := fct_1 hf; omega
      · cases h
theorem rUn_ok {b : Nat → Nat} {n : Nat} {law : Bool} (hn : n ≤ 1300) (hb : ∀ i, b i < 256) {mk : Nat} {nm : Nat → Nat} {j : Nat} {x : Nat × Nat} (hm : mk ≤ 6) (h : rUn (tok b n law) mk nm j = .ok x) : opOk mk x ∧ x.1 < 6 := by
  unfold rUn at h
  split at h
  · rename_i q
    cases h
    exact ⟨⟨Nat.zero_le _, (tok_v (law := law) hn hb j).2.2.1 q, fun z => by cases z⟩, (by show 0 < 6; omega)⟩
  · split at h
    · split at h
      · rename_i m hm'
        cases h
        have := (fdN_lt hm').1
        exact ⟨⟨(by show 1 ≤ 14; omega), (by show m < 10000; omega), fun _ => this⟩, (by show 1 < 6; omega)⟩
      · cases h
    · split at h
      · rename_i f hf
        cases h
        have := fct_b hf
        exact ⟨⟨(by show f ≤ 14; omega), (by show 0 < 10000; omega), fun z => by have z : f = 1 := z; omega⟩, (by show f < 6; omega)⟩
      · cases h
theorem rLv_ok {b : Nat → Nat} {n : Nat} {law : Bool} (hn : n ≤ 1300) (hb : ∀ i, b i < 256) {mk : Nat} {nm : Nat → Nat} (hm : mk ≤ 6) : ∀ (f L w : Nat) (a c : Lp), rLv (tok b n law) mk nm f L w a = .ok c → LvR mk n a c
  | 0, L, w, a, c, h => by cases h
  | f + 1, L, w, a, c, h => by
    unfold rLv at h
    by_cases q5 : L = 5
    · rw [if_pos q5] at h
      by_cases qu : 50 ≤ a.2.1
      · rw [if_pos qu] at h; cases h
      · rw [if_neg qu] at h
        by_cases qo : (tok b n law a.2.2).1 = 3 ∧ (tok b n law a.2.2).2.2 = 40
        · rw [if_pos qo] at h
          by_cases qw : 6 < w
          · rw [if_pos qw] at h; cases h
          · rw [if_neg qw] at h
            cases e1 : rLv (tok b n law) mk nm f 0 (w + 1) (a.1, a.2.1 + 1, a.2.2 + 1) with
            | error x => rw [e1] at h; cases h
            | ok c1 =>
              rw [e1] at h
              have h : andT (rG (tok b n law) 41 c1.2.2) (fun j' => Except.ok (c1.1, c1.2.1, j')) = .ok c := h
              cases e2 : rG (tok b n law) 41 c1.2.2 with
              | error x => rw [e2] at h; cases h
              | ok j' =>
                rw [e2] at h
                cases h
                have := rG_ok e2
                obtain ⟨h1, h2, h3, h4, q, e, l, x, dq⟩ := rLv_ok hn hb hm f 0 (w + 1) _ _ e1
                have h1 : a.2.1 + 1 < c1.2.1 := h1
                have h3 : a.2.2 + 1 < c1.2.2 := h3
                have l : q.length + (a.2.2 + 1) ≤ c1.2.2 := l
                have dq : ∀ k, k + (c1.2.1 - (a.2.1 + 1)) ≤ 50 → dpq q k = some (k + 1) := dq
                refine ⟨(by show a.2.1 < c1.2.1; omega), h2, (by show a.2.2 < j'; omega), (by show j' ≤ n; have := tok_lt hn (rG_1 e2); omega), q, e, (by show q.length + a.2.2 ≤ j'; omega), x, fun k hk => dq k ?_⟩
                have hk : k + (c1.2.1 - a.2.1) ≤ 50 := hk
                omega
        · rw [if_neg qo] at h
          cases e1 : rUn (tok b n law) mk nm a.2.2 with
          | error x => rw [e1] at h; cases h
          | ok x =>
            rw [e1] at h
            cases h
            obtain ⟨x1, x2⟩ := rUn_ok hn hb hm e1
            refine ⟨(by show a.2.1 < a.2.1 + 1; omega), (by show a.2.1 + 1 ≤ 50; omega), (by show a.2.2 < a.2.2 + 1; omega), (by show a.2.2 + 1 ≤ n; exact tok_lt hn (rUn_1 e1)), [x], rfl, (by show 1 + a.2.2 ≤ a.2.2 + 1; omega), fun y hy => ?_, fun k hk => ?_⟩
            · rw [List.mem_singleton.mp hy]; exact x1
            · have hk : k + (a.2.1 + 1 - a.2.1) ≤ 50 := hk
              show (some k).bind (dp1 x) = _
              show dp1 x k = _
              unfold dp1
              rw [if_pos x2, if_pos (by omega)]
    · rw [if_neg q5] at h
      by_cases q2 : L = 2 ∧ (tok b n law a.2.2).1 = 1 ∧ (tok b n law a.2.2).2.2 = 7237492
      · rw [if_pos q2] at h
        by_cases qw : 6 < w
        · rw [if_pos qw] at h; cases h
        · rw [if_neg qw] at h
          cases e1 : rLv (tok b n law) mk nm f 2 (w + 1) (a.1, a.2.1, a.2.2 + 1) with
          | error x => rw [e1] at h; cases h
          | ok c1 =>
            rw [e1] at h
            cases h
            obtain ⟨h1, h2, h3, h4, q, e, l, x, dq⟩ := rLv_ok hn hb hm f 2 (w + 1) _ _ e1
            have h1 : a.2.1 < c1.2.1 := h1
            have h3 : a.2.2 + 1 < c1.2.2 := h3
            have l : q.length + (a.2.2 + 1) ≤ c1.2.2 := l
            have e : c1.1 = q ++ a.1 := e
            have dq : ∀ k, k + (c1.2.1 - a.2.1) ≤ 50 → dpq q k = some (k + 1) := dq
            refine ⟨h1, h2, (by show a.2.2 < c1.2.2; omega), h4, (6, 0) :: q, (by show (6, 0) :: c1.1 = _; rw [e]; rfl), (by show q.length + 1 + a.2.2 ≤ c1.2.2; omega), fun y hy => ?_, fun k hk => ?_⟩
            · rcases List.mem_cons.mp hy with hy | hy
              · rw [hy]; exact ⟨(by show 6 ≤ 14; omega), (by show 0 < 10000; omega), fun z => by cases z⟩
              · exact x y hy
            · show (dpq q k).bind (dp1 (6, 0)) = _
              rw [dq k hk]
              show dp1 (6, 0) (k + 1) = _
              unfold dp1
              rw [if_neg (show ¬ 6 < 6 by omega), if_pos rfl, if_pos (by omega)]
      · rw [if_neg q2] at h
        cases e1 : rLv (tok b n law) mk nm f (L + 1) w a with
        | error x => rw [e1] at h; cases h
        | ok c1 =>
          rw [e1] at h
          exact rJn_ok (fun a c hc => rLv_ok hn hb hm f (L + 1) w a c hc) _ a c1 c (rLv_ok hn hb hm f (L + 1) w a c1 e1) h
/-! laws: program, units, lines, least, most, where a line's signs stop -/
def Lw : Type := List (Nat × Nat) × Nat × Nat × (Nat → Nat) × (Nat → Nat) × (Nat → Nat)
def Lw.P (S : Lw) : List (Nat × Nat) := S.1
def Lw.u (S : Lw) : Nat := S.2.1
def Lw.k (S : Lw) : Nat := S.2.2.1
def Lw.lo (S : Lw) : Nat → Nat := S.2.2.2.1
def Lw.hi (S : Lw) : Nat → Nat := S.2.2.2.2.1
def Lw.st (S : Lw) : Nat → Nat := S.2.2.2.2.2
def emL : Lw := ([], 0, 0, fun _ => 0, fun _ => 0, fun _ => 0)
def adL (S : Lw) (a : Lp) (lo hi : Nat) : Lw := (a.1, a.2.1, S.k + 1, upN S.lo S.k lo, upN S.hi S.k hi, upN S.st S.k a.1.length)
def rLl (tk : Nat → Tk) (mk : Nat) (nm : Nat → Nat) (S : Lw) (j : Nat) : Except Fa (Lw × Nat) :=
  if 8 ≤ S.k then .error (flt 2 (tk j)) else andT (rW tk 2003330414 j) fun j1 => andT (rLv tk mk nm 48 0 0 (S.P, S.u, j1)) fun a => andT (rWN tk 465557353332 0 240 a.2.2) fun c => andT (rWN tk 1836020596 c.1 240 c.2) fun e => andT (rG tk 59 e.2) fun j' => .ok (adL S a c.1 e.1, j')
def rLs (tk : Nat → Tk) (mk : Nat) (nm : Nat → Nat) : Nat → Lw → Nat → Except Fa Lw
  | 0, _, _ => .error (0, 0)
  | f + 1, S, j => if (tk j).1 = 0 then .ok S else andT (rLl tk mk nm S j) fun a => rLs tk mk nm f a.1 a.2
def pfL (P : List (Nat × Nat)) (i : Nat) : Nat × Nat := P.reverse.getD i (0, 0)
def Lw.bg (S : Lw) (i : Nat) : Nat := if i = 0 then 0 else S.st (i - 1)
def wfN (pf : Nat → Nat × Nat) : Nat → Nat → Nat → Prop
  | 0, _, k => k = 1
  | c + 1, i, k => if (pf i).1 < 6 then k < 50 ∧ wfN pf c (i + 1) (k + 1) else if (pf i).1 = 6 then 1 ≤ k ∧ wfN pf c (i + 1) k else 2 ≤ k ∧ wfN pf c (i + 1) (k - 1)
theorem wfN_congr {pf pf' : Nat → Nat × Nat} : ∀ (c i k : Nat), (∀ j, i ≤ j → j < i + c → pf j = pf' j) → wfN pf c i k → wfN pf' c i k
  | 0, i, k, _, h => h
  | c + 1, i, k, e, h => by
    unfold wfN at h ⊢
    rw [← e i (Nat.le_refl _) (by omega)]
    split
    · rename_i q; rw [if_pos q] at h; exact ⟨h.1, wfN_congr c _ _ (fun j h1 h2 => e j (by omega) (by omega)) h.2⟩
    · rename_i q
      rw [if_neg q] at h
      split
      · rename_i q'; rw [if_pos q'] at h; exact ⟨h.1, wfN_congr c _ _ (fun j h1 h2 => e j (by omega) (by omega)) h.2⟩
      · rename_i q'; rw [if_neg q'] at h; exact ⟨h.1, wfN_congr c _ _ (fun j h1 h2 => e j (by omega) (by omega)) h.2⟩
def dpf : List (Nat × Nat) → Nat → Option Nat
  | [], k => some k
  | x :: l, k => (dp1 x k).bind (dpf l)
theorem dpf_app (p : List (Nat × Nat)) : ∀ (q : List (Nat × Nat)) (k : Nat), dpf (p ++ q) k = (dpf p k).bind (dpf q) := by
  induction p with
  | nil => intro q k; rfl
  | cons x p ih =>
    intro q k
    show (dp1 x k).bind (dpf (p ++ q)) = ((dp1 x k).bind (dpf p)).bind (dpf q)
    cases dp1 x k with
    | none => rfl
    | some y => exact ih q y
theorem dpq_rev (q : List (Nat × Nat)) (k : Nat) : dpf q.reverse k = dpq q k := by
  induction q with
  | nil => rfl
  | cons x q ih =>
    rw [List.reverse_cons, dpf_app, ih]
    show (dpq q k).bind (dpf [x]) = (dpq q k).bind (dp1 x)
    congr 1
    funext y
    show (dp1 x y).bind some = dp1 x y
    simp
theorem wfN_of {pf : Nat → Nat × Nat} : ∀ (l : List (Nat × Nat)) (i k : Nat), (∀ j, j < l.length → pf (i + j) = l.getD j (0, 0)) → dpf l k = some 1 → wfN pf l.length i k
  | [], i, k, _, h => by cases h; rfl
  | x :: l, i, k, e, h => by
    have e0 : pf i = x := e 0 (by simp)
    have e1 : ∀ j, j < l.length → pf (i + 1 + j) = l.getD j (0, 0) := fun j hj => by
      have := e (j + 1) (by simp; omega)
      rw [show i + 1 + j = i + (j + 1) by omega, this]; rfl
    have h : (dp1 x k).bind (dpf l) = some 1 := h
    show wfN pf (l.length + 1) i k
    unfold wfN
    rw [e0]
    unfold dp1 at h
    by_cases q : x.1 < 6
    · rw [if_pos q] at h ⊢
      by_cases z : k < 50
      · rw [if_pos z] at h; exact ⟨z, wfN_of l _ _ e1 h⟩
      · rw [if_neg z] at h; cases h
    · rw [if_neg q] at h ⊢
      by_cases q' : x.1 = 6
      · rw [if_pos q'] at h ⊢
        by_cases z : 1 ≤ k
        · rw [if_pos z] at h; exact ⟨z, wfN_of l _ _ e1 h⟩
        · rw [if_neg z] at h; cases h
      · rw [if_neg q'] at h ⊢
        by_cases z : 2 ≤ k
        · rw [if_pos z] at h; exact ⟨z, wfN_of l _ _ e1 h⟩
        · rw [if_neg z] at h; cases h
theorem pfL_lo {q P : List (Nat × Nat)} {i : Nat} (h : i < P.length) : pfL (q ++ P) i = pfL P i := by
  unfold pfL
  rw [List.reverse_append, List.getD_eq_getElem?_getD, List.getD_eq_getElem?_getD, List.getElem?_append_left (by simp; exact h)]
theorem pfL_hi {q P : List (Nat × Nat)} {j : Nat} : pfL (q ++ P) (P.length + j) = q.reverse.getD j (0, 0) := by
  unfold pfL
  rw [List.reverse_append, List.getD_eq_getElem?_getD, List.getD_eq_getElem?_getD, List.getElem?_append_right (by simp)]
  simp
/-- what laws keep to -/
def LwOk (mk : Nat) (S : Lw) : Prop :=
  (S.k ≤ 8 ∧ S.u ≤ 50 ∧ S.P.length ≤ 500 ∧ S.P.length = S.bg S.k) ∧ (∀ x, x ∈ S.P → opOk mk x) ∧ ∀ i, i < S.k → S.lo i ≤ S.hi i ∧ S.hi i ≤ 240 ∧ S.bg i ≤ S.st i ∧ S.st i ≤ S.P.length ∧ wfN (pfL S.P) (S.st i - S.bg i) (S.bg i) 0
theorem ok_emL (mk : Nat) : LwOk mk emL := ⟨⟨Nat.zero_le _, Nat.zero_le _, Nat.zero_le _, rfl⟩, fun x hx => (by cases hx), fun i hi => absurd hi (Nat.not_lt_zero i)⟩
theorem ok_adL {mk n j1 lo hh : Nat} {S : Lw} {a : Lp} (h : LwOk mk S) (hk : S.k < 8) (hR : LvR mk n (S.P, S.u, j1) a) (hl : lo ≤ hh ∧ hh ≤ 240) (h5 : a.1.length ≤ 500) : LwOk mk (adL S a lo hh) := by
  obtain ⟨⟨a1, a2, a3, a4⟩, b, c⟩ := h
  obtain ⟨r1, r2, r3, r4, q, e, l, x, dq⟩ := hR
  have e : a.1 = q ++ S.P := e
  have bgl : ∀ i, i ≤ S.k → (adL S a lo hh).bg i = S.bg i := fun i hi => by
    unfold Lw.bg
    split
    · rfl
    · exact upN_ne (show i - 1 ≠ S.k by omega)
  have bgk : (adL S a lo hh).bg (S.k + 1) = a.1.length := by
    unfold Lw.bg
    rw [if_neg (by omega)]
    exact upN_at
  refine ⟨⟨hk, r2, h5, bgk.symm⟩, fun y hy => ?_, fun i hi => ?_⟩
  · have hy : y ∈ a.1 := hy
    rw [e] at hy
    rcases List.mem_append.mp hy with hy | hy
    · exact x y hy
    · exact b y hy
  · have hi : i < S.k + 1 := hi
    rw [bgl i (by omega)]
    show upN S.lo S.k lo i ≤ upN S.hi S.k hh i ∧ upN S.hi S.k hh i ≤ 240 ∧ S.bg i ≤ upN S.st S.k a.1.length i ∧ upN S.st S.k a.1.length i ≤ a.1.length ∧ wfN (pfL a.1) (upN S.st S.k a.1.length i - S.bg i) (S.bg i) 0
    have le : a.1.length = q.length + S.P.length := by rw [e]; simp
    by_cases z : i = S.k
    · rw [z, upN_at, upN_at, upN_at, ← a4]
      refine ⟨hl.1, hl.2, by omega, Nat.le_refl _, ?_⟩
      rw [le, Nat.add_sub_cancel, e]
      have := wfN_of (pf := pfL (q ++ S.P)) q.reverse S.P.length 0 (fun j _ => pfL_hi) (by
        rw [dpq_rev]
        have hd := dq 0
        have r2 : a.2.1 ≤ 50 := r2
        exact hd (by show 0 + (a.2.1 - S.u) ≤ 50; omega))
      rw [List.length_reverse] at this
      exact this
    · rw [upN_ne z, upN_ne z, upN_ne z]
      obtain ⟨c1, c2, c3, c4, c5⟩ := c i (by omega)
      refine ⟨c1, c2, c3, by omega, ?_⟩
      rw [e]
      exact wfN_congr _ _ _ (fun j h1 h2 => (pfL_lo (by omega)).symm) c5
/-! what a program is worth -/
def jnV (o : Nat) (l r : Int32) : Int32 := if o = 7 then (if l = 0 ∧ r = 0 then 0 else 1) else if o = 8 then (if l = 0 ∨ r = 0 then 0 else 1) else if o = 9 then (if l < r then 1 else 0) else if o = 10 then (if r < l then 1 else 0) else if o = 11 then (if l = r then 1 else 0) else if o = 12 then l + r else if o = 13 then l - r else l * r
def ntV (x : Int32) : Int32 := if x = 0 then 1 else 0
def evN (g : Nat × Nat → Int32) (pf : Nat → Nat × Nat) : Nat → Nat → List Int32 → List Int32
  | 0, _, s => s
  | c + 1, i, s => evN g pf c (i + 1) (if (pf i).1 < 6 then g (pf i) :: s else if (pf i).1 = 6 then (match s with | a :: t => ntV a :: t | [] => []) else (match s with | r :: l :: t => jnV (pf i).1 l r :: t | _ => []))
def gC (B : Bk) (c : Nat) (x : Nat × Nat) : Int32 := if x.1 = 1 then nI (bS B c x.2) else if x.1 = 2 then nI (bJ B c) else if x.1 = 3 then nI (bY B c) else if x.1 = 4 then nI (bG B c) else if x.1 = 5 then nI (bW B c) else nI x.2
def wrt (g : Nat × Nat → Int32) (S : Lw) (i : Nat) : Int32 := (evN g (pfL S.P) (S.st i - S.bg i) (S.bg i) []).headD 0
/-- the first line that is not 0 -/
def lnE (B : Bk) (S : Lw) (c : Nat) : Int := fsT S.k (fun i => !decide (wrt (gC B c) S i = 0))
