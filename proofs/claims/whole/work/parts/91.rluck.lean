/-! CONTRACTS: how seldom by luck: the reference counts all choices -/
theorem sZ_castN (f : Nat → Nat) : ∀ n, sZ n (fun k => ((f k : Nat) : Int)) = ((sN n f : Nat) : Int)
  | 0 => rfl
  | n + 1 => by
    show sZ n (fun k => ((f k : Nat) : Int)) + (f n : Int) = ((sN n f + f n : Nat) : Int)
    rw [sZ_castN f n, Int.natCast_add]
theorem bin_pos : ∀ n s, s ≤ n → 0 < bin n s
  | 0, 0, _ => by decide
  | n + 1, 0, _ => by show 0 < 1; decide
  | n + 1, s + 1, h => by show 0 < bin n s + bin n (s + 1); have := bin_pos n s (by omega); omega
theorem pc_n {n s : Nat} (h16 : n ≤ 16) (hs : s < 2 ^ n) : pc 16 s = cN n s.testBit := by
  have := cN_split s.testBit n (16 - n)
  rw [show n + (16 - n) = 16 by omega] at this
  show cN 16 s.testBit = _
  rw [this, cN_0 (16 - n) fun k _ => by
    cases q : s.testBit (n + k)
    · rfl
    · have := pw_b hs q; omega]
  omega
section rluck
variable {Θ : Th} {d : Nat} {σ : Mem} {Q : Po} {n : Nat} {w g f : Nat → Nat}
theorem c244_85 {x2 : Int32} {own v : Nat} (hn : σ.1 124 38 = nI n) (h16 : n ≤ 16) (hw : ∀ c, c < n → σ.1 144 c = nI (w c) ∧ w c ≤ 4) (hg : ∀ c, c < n → σ.1 143 c = nI (g c) ∧ g c ≤ 240) (hf : ∀ c, c < n → σ.1 157 c = nI (f c) ∧ f c ≤ 240)
    (ho : 0 < own ∧ own ≤ n) (hv : v ≤ 15360)
    (K : ∀ r, r = mkRat (cw (rowL n (fun c => ((gD w g f c : Nat) : Int))) own v : Nat) (bin n own) → Q (some (.long (if x2 = 0 then jJ r.num else jJ (r.den : Nat)))) (frW σ 124 44 45 r)) :
    G Θ (d + 2) 244 85 [some (.ref 124), none, some (.int x2), some (.int (nI own)), some (.int (nI v)), some (.long 0), none, some (.long 0), none, some (.int 1), none, none] [] σ Q := by
  have h65 := pw_le h16
  have hp := Nat.two_pow_pos n
  have gb : ∀ c, c < n → gD w g f c ≤ 960 := fun c hc => Nat.mul_le_mul (hw c hc).2 (absD_le (hg c hc).2 (hf c hc).2)
  let A : Nat → Bool := fun k => decide (cN n (fun j => k.testBit j) = own)
  let M : Nat → Bool := qD n (fun c => ((gD w g f c : Nat) : Int)) own v
  have a0 : A 0 = false := decide_eq_false (by rw [cN_0 n fun k _ => tb0 k]; omega)
  have m0 : M 0 = false := by
    show (decide (cN n (fun j => (0 : Nat).testBit j) = own) && _) = false
    have : decide (cN n (fun j => (0 : Nat).testBit j) = own) = false := a0
    rw [this]; rfl
  have z0 : (0 : Int64) = jJ ((cN 1 A : Nat) : Int) := by
    show (0 : Int64) = jJ ((0 + (if A 0 = true then 1 else 0) : Nat) : Int)
    rw [a0]; rfl
  have z1 : (0 : Int64) = jJ ((cN 1 M : Nat) : Int) := by
    show (0 : Int64) = jJ ((0 + (if M 0 = true then 1 else 0) : Nat) : Int)
    rw [m0]; rfl
  have j1 : ∀ x : Nat, jJ (x : Int) + 1 = jJ ((x + 1 : Nat) : Int) := fun x => by rw [show (1 : Int64) = jJ 1 from rfl, jJ_add]; rfl
  have j0 : ∀ x : Nat, jJ (x : Int) + 0 = jJ (x : Int) := fun x => by rw [show (0 : Int64) = jJ 0 from rfl, jJ_add]; simp
  have start := loopN (P := fun i => G Θ (d + 2) 244 85 [some (.ref 124), none, some (.int x2), some (.int (nI own)), some (.int (nI v)), some (.long (jJ ((cN (i + 1) A : Nat) : Int))), none, some (.long (jJ ((cN (i + 1) M : Nat) : Int))), none, some (.int (nI (i + 1))), none, none] [] σ Q) (2 ^ n - 1) ?_ ?_
  · show G Θ (d + 2) 244 85 [some (.ref 124), none, some (.int x2), some (.int (nI own)), some (.int (nI v)), some (.long (0 : Int64)), none, some (.long (0 : Int64)), none, some (.int 1), none, none] [] σ Q
    have s2 : G Θ (d + 2) 244 85 [some (.ref 124), none, some (.int x2), some (.int (nI own)), some (.int (nI v)), some (.long (jJ ((cN 1 A : Nat) : Int))), none, some (.long (jJ ((cN 1 M : Nat) : Int))), none, some (.int (nI 1)), none, none] [] σ Q := start
    rw [← z0, ← z1] at s2
    exact s2
  · rw [show 2 ^ n - 1 + 1 = 2 ^ n by omega]
    have eA : cN (2 ^ n) A = bin n own := bin_sets n own
    have eM : cN (2 ^ n) M = cw (rowL n (fun c => ((gD w g f c : Nat) : Int))) own v := cw_sets _ n own v
    have bA := bin_pos n own ho.2
    have bA2 : cN (2 ^ n) A ≤ 2 ^ n := cN_max _ _
    have bM2 : cN (2 ^ n) M ≤ 2 ^ n := cN_max _ _
    refine B244_85 ⟨fun _ => ?_, fun h => absurd (by rw [hn, pw_n n (by omega)]; exact nI_le (Nat.le_refl _) (by omega)) h⟩
    refine c211 (u := ((cN (2 ^ n) M : Nat) : Int)) (l := cN (2 ^ n) A) (by omega) (by omega) (by omega) (by omega) ⟨rfl, ?_⟩
    refine cl (fun _ => c214) ?_
    have kk := K (mkRat ((cN (2 ^ n) M : Nat) : Int) (cN (2 ^ n) A)) (by rw [eA, eM])
    have f0 : (frW σ 124 44 45 (mkRat ((cN (2 ^ n) M : Nat) : Int) (cN (2 ^ n) A))).2.1 124 44 = jJ (mkRat ((cN (2 ^ n) M : Nat) : Int) (cN (2 ^ n) A)).num := by rw [frW, sL_of _ _ (by omega), sL_at]
    have f1 : (frW σ 124 44 45 (mkRat ((cN (2 ^ n) M : Nat) : Int) (cN (2 ^ n) A))).2.1 124 45 = jJ ((mkRat ((cN (2 ^ n) M : Nat) : Int) (cN (2 ^ n) A)).den : Nat) := by rw [frW, sL_at]
    show Q (some (.long (if x2 = 0 then (frW σ 124 44 45 (mkRat ((cN (2 ^ n) M : Nat) : Int) (cN (2 ^ n) A))).2.1 124 44 else (frW σ 124 44 45 (mkRat ((cN (2 ^ n) M : Nat) : Int) (cN (2 ^ n) A))).2.1 124 45))) _
    rw [f0, f1]; exact kk
  · intro i hi ih
    have hi2 : i + 1 < 2 ^ n := by omega
    have sA : cN (i + 1 + 1) A = cN (i + 1) A + (if A (i + 1) = true then 1 else 0) := rfl
    have sM : cN (i + 1 + 1) M = cN (i + 1) M + (if M (i + 1) = true then 1 else 0) := rfl
    rw [sA, sM] at ih
    have hA : A (i + 1) = decide (pc 16 (i + 1) = own) := by
      show decide (cN n (fun j => (i + 1).testBit j) = own) = _
      rw [pc_n h16 hi2]
    have hM : M (i + 1) = (decide (pc 16 (i + 1) = own) && decide (v ≤ sN n (fun j => if (i + 1).testBit j = true then gD w g f j else 0))) := by
      show (decide (cN n (fun j => (i + 1).testBit j) = own) && decide ((v : Int) ≤ sZ n (fun j => if (i + 1).testBit j = true then ((gD w g f j : Nat) : Int) else 0))) = _
      rw [pc_n h16 hi2]
      congr 1
      have e : sZ n (fun j => if (i + 1).testBit j = true then ((gD w g f j : Nat) : Int) else 0) = ((sN n (fun j => if (i + 1).testBit j = true then gD w g f j else 0) : Nat) : Int) := by
        rw [← sZ_castN]
        exact sZ_congr n fun j _ => by by_cases q : (i + 1).testBit j = true <;> simp [q]
      rw [e, decide_eq_decide]; omega
    have pm : pc 16 (i + 1) ≤ 16 := cN_max _ 16
    refine B244_85 ⟨fun h => absurd h (by rw [hn, pw_n n (by omega)]; exact nI_ge hi2 (by omega)), fun _ => ?_⟩
    refine ci (fun _ => c230 (by omega)) ?_
    rw [nI_eq (by omega) (by omega)]
    refine ⟨fun h => ?_, fun h => ?_⟩
    · rw [hM, hA, decide_eq_true h, Bool.true_and, if_pos rfl] at ih
      rw [j1]
      have sb : ∀ j, j ≤ n → sN j (fun j => if (i + 1).testBit j = true then gD w g f j else 0) ≤ 15360 := fun j hj => by
        have := sN_b (f := fun j => if (i + 1).testBit j = true then gD w g f j else 0) (b := 960) j (fun k hk => by
          have := gb k (by omega)
          show (if (i + 1).testBit k = true then gD w g f k else 0) ≤ 960
          split <;> omega)
        omega
      refine loopN (P := fun c => G Θ (d + 2) 244 120 [some (.ref 124), none, some (.int x2), some (.int (nI own)), some (.int (nI v)), some (.long (jJ ((cN (i + 1) A + 1 : Nat) : Int))), none, some (.long (jJ ((cN (i + 1) M : Nat) : Int))), none, some (.int (nI (i + 1))), some (.int (nI (sN c (fun j => if (i + 1).testBit j = true then gD w g f j else 0)))), some (.int (nI c))] [] σ Q) n ?_ ?_
      · have b := sb n (Nat.le_refl n)
        refine B244_120 ⟨fun _ => ?_, fun h => absurd (by rw [hn]; exact nI_le (Nat.le_refl _) (by omega)) h⟩
        rw [nI_ltI (by omega) (by omega), nI_1, j1, j0]
        refine ⟨fun q => ?_, fun q => ?_⟩
        · rw [decide_eq_false (by omega), if_neg (by decide)] at ih; exact ih
        · rw [decide_eq_true (by omega), if_pos rfl] at ih; exact ih
      · intro c hc ih2
        refine B244_120 ⟨fun h => absurd h (by rw [hn]; exact nI_ge hc (by omega)), fun _ => ?_⟩
        rw [bt_shr _ (by omega), bt_nI _ (by omega), nI_1, bt_eq1]
        have sS1 : sN (c + 1) (fun j => if (i + 1).testBit j = true then gD w g f j else 0) = sN c (fun j => if (i + 1).testBit j = true then gD w g f j else 0) + (if (i + 1).testBit c = true then gD w g f c else 0) := rfl
        rw [sS1] at ih2
        refine ⟨fun q => ?_, fun q => ?_⟩
        · rw [if_neg q] at ih2
          rw [show ∀ y : Nat, nI y + 0 = nI y from fun y => by rw [show (0 : Int32) = nI 0 from rfl, nI_add]; rfl]
          exact ih2
        · rw [if_pos q] at ih2
          refine ci (fun _ => c224 (by omega) (hw c hc).1 (hg c hc) (hf c hc)) ?_
          show G Θ (d + 2) 244 120 [some (.ref 124), none, some (.int x2), some (.int (nI own)), some (.int (nI v)), some (.long (jJ ((cN (i + 1) A + 1 : Nat) : Int))), none, some (.long (jJ ((cN (i + 1) M : Nat) : Int))), none, some (.int (nI (i + 1))), some (.int (nI (sN c (fun j => if (i + 1).testBit j = true then gD w g f j else 0)) + nI (gD w g f c))), some (.int (nI (c + 1)))] [] σ Q
          rw [nI_add]; exact ih2
    · rw [hM, hA, decide_eq_false h, Bool.false_and, if_neg (by decide)] at ih
      rw [nI_1]; exact ih
end rluck
