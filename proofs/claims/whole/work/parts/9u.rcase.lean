/-! CONTRACTS: the reference's line of a case: beginnings -/
def rSteps0 (tk : Nat → Tk) (S : Rds) : Nat → (Nat → Bool) → (Nat → Nat) → Nat → Except Fa ((Nat → Nat) × Nat)
  | 0, _, _, _ => .error (0, 0)
  | f + 1, told, st, j => if (tk j).1 = 3 ∧ (tk j).2.2 = 59 then .ok (st, j) else
      andT (rMk tk S j) fun m => if told m = true then .error (flt 3 (tk j)) else andT (rN tk 0 (S.mt m) (j + 1)) fun a => rSteps0 tk S f (upN told m true) (upN st m a.1) a.2
theorem rSteps_0 {tk : Nat → Tk} {S : Rds} : ∀ (f : Nat) (told : Nat → Bool) (st : Nat → Nat) (j : Nat), rSteps tk S f told st j = andT (rSteps0 tk S f told st j) fun x => andT (rG tk 59 x.2) fun j' => .ok (x.1, j')
  | 0, _, _, _ => rfl
  | f + 1, told, st, j => by
    unfold rSteps rSteps0
    by_cases q : (tk j).1 = 3 ∧ (tk j).2.2 = 59
    · rw [if_pos q, if_pos q, andT_ok rfl]
      have : rG tk 59 j = .ok (j + 1) := if_pos q
      rw [andT_ok this]
    · rw [if_neg q, if_neg q]
      cases h1 : rMk tk S j with
      | error e => rfl
      | ok m =>
        rw [andT_ok rfl, andT_ok rfl]
        by_cases q2 : told m = true
        · rw [if_pos q2, if_pos q2]; rfl
        · rw [if_neg q2, if_neg q2]
          cases h2 : rN tk 0 (S.mt m) (j + 1) with
          | error e => rfl
          | ok a =>
            rw [andT_ok rfl, andT_ok rfl]
            exact rSteps_0 f _ _ _
def rCase0 (tk : Nat → Tk) (S : Rds) (j : Nat) : Except Fa (Rds × Nat) :=
  andT (rNew tk S (j + 1)) fun a => andT (rFacts tk a.2) fun c => andT (rSteps0 tk S 8 (fun _ => false) (fun _ => 0) c.2) fun e => .ok (addC S a.1 c.1 e.1, e.2)
theorem rCase_0 {tk : Nat → Tk} {S : Rds} {j : Nat} (h : S.c < 16) : rCase tk S j = andT (rCase0 tk S j) fun x => andT (rG tk 59 x.2) fun j' => .ok (x.1, j') := by
  unfold rCase rCase0
  rw [if_neg (by omega)]
  cases h1 : rNew tk S (j + 1) with
  | error e => rfl
  | ok a =>
    rw [andT_ok rfl, andT_ok rfl]
    cases h2 : rFacts tk a.2 with
    | error e => rfl
    | ok c =>
      rw [andT_ok rfl, andT_ok rfl, rSteps_0]
      cases h3 : rSteps0 tk S 8 (fun _ => false) (fun _ => 0) c.2 with
      | error e => rfl
      | ok e =>
        rw [andT_ok rfl, andT_ok rfl, andT_ok rfl]
        cases h4 : rG tk 59 e.2 with
        | error g => rfl
        | ok g => rfl
theorem ix6r {c m : Nat} : (6 : Int32) * nI c + nI m = nI (6 * c + m) := by
  rw [show (6 : Int32) = nI 6 from rfl, pk_mul, nI_add]
section rcs
variable {Θ : Th} {d : Nat} {σ : Mem} {Q : Po}
/-- the row of steps is made empty -/
theorem c188z {x2 : Int64} {c : Nat} (hc : c < 16) (K : ∀ s, Fr [129, 138] σ s → (∀ i, (i < 6 * c ∨ 6 * c + 6 ≤ i) → s.1 129 i = σ.1 129 i) → (∀ m, m < 6 → s.1 129 (6 * c + m) = 0 ∧ s.1 138 m = 0) → G Θ (d + 1) 188 131 [some (.ref 124), some (.int (nI c)), some (.long x2), none, none] [] s Q) :
    G Θ (d + 1) 188 97 [some (.ref 124), some (.int (nI c)), some (.long x2), none, some (.int 0)] [] σ Q := by
  have start := loopS (α := Mem) (I := fun k s => Fr [129, 138] σ s ∧ (∀ i, (i < 6 * c ∨ 6 * c + 6 ≤ i) → s.1 129 i = σ.1 129 i) ∧ ∀ m, m < k → s.1 129 (6 * c + m) = 0 ∧ s.1 138 m = 0) (P := fun k s => G Θ (d + 1) 188 97 [some (.ref 124), some (.int (nI c)), some (.long x2), none, some (.int (nI k))] [] s Q) 6 ?_ ?_ σ ⟨Fr.rfl, fun _ _ => rfl, fun m hm => absurd hm (Nat.not_lt_zero m)⟩
  · exact start
  · intro s ⟨h1, h2, h3⟩
    exact B188_97 ⟨fun _ => K s h1 h2 h3, fun q => absurd (nI_le (a := 6) (Nat.le_refl _) (by omega)) q⟩
  · intro k s hk ⟨h1, h2, h3⟩ ih
    refine B188_97 ⟨fun q => absurd q (nI_ge (b := 6) hk (by omega)), fun _ => ?_⟩
    rw [ix6r, nI_clamp (by omega), nI_clamp (by omega), nb_0, nI_1]
    refine ⟨vp_in_nI (by omega) (by decide), vp_in_nI (by omega) (by decide), ih _ ⟨(h1.I (by simp)).I (by simp), fun i hi => ?_, fun m hm => ?_⟩⟩
    · rw [sI_of _ _ (by omega), sI_of _ _ (by omega)]; exact h2 i hi
    · by_cases z : m = k
      · rw [z, sI_at, sI_of _ _ (by omega), sI_at]; exact ⟨rfl, rfl⟩
      · rw [sI_of _ _ (by omega), sI_of _ _ (by omega), sI_of _ _ (by omega), sI_of _ _ (by omega)]; exact h3 m (by omega)
/-- with a fault standing, the rest of the line changes nothing that counts -/
theorem c188e {x2 : Int64} {c : Nat} {e : Fa} (hc : c < 16) (h : FaR e σ) (K : ∀ s, Fr [129, 138] σ s → FaR e s → Q none s) :
    G Θ (d + 1) 188 97 [some (.ref 124), some (.int (nI c)), some (.long x2), none, some (.int 0)] [] σ Q := by
  refine c188z hc fun s f _ _ => ?_
  have hs : FaR e s := ⟨⟨by rw [(f 124 (by decide)).1]; exact h.1.1, by rw [(f 124 (by decide)).1]; exact h.1.2⟩, h.2⟩
  exact B188_131 ⟨fun _ => B188_223 ⟨fun q => absurd q (FaR_n hs).1, fun _ => K s f hs⟩, fun q => absurd q (FaR_n hs).2⟩
end rcs
