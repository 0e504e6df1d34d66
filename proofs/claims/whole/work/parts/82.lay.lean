/-! CONTRACTS: the reference's tables over all sets of cases -/
theorem lo_and {s c : Nat} (h : s.testBit c = true) (h' : ∀ j, j < c → s.testBit j = false) (j : Nat) : (s &&& (s - 1)).testBit j = (s.testBit j && !decide (j = c)) := by
  have hm : s % 2 ^ (c + 1) = 2 ^ c := by
    apply Nat.eq_of_testBit_eq
    intro i
    rw [Nat.testBit_mod_two_pow, Nat.testBit_two_pow]
    rcases Nat.lt_trichotomy i c with q | q | q
    · rw [h' i q, Bool.and_false]; exact (decide_eq_false (by omega)).symm
    · subst q; rw [h]; simp
    · rw [decide_eq_false (show ¬ i < c + 1 by omega), decide_eq_false (show ¬ c = i by omega)]; rfl
  have h1 := Nat.div_add_mod s (2 ^ (c + 1))
  rw [hm] at h1
  have hp := Nat.two_pow_pos c
  have h2 : s - 1 = 2 ^ (c + 1) * (s / 2 ^ (c + 1)) + (2 ^ c - 1) := by omega
  have hlt : 2 ^ c < 2 ^ (c + 1) := Nat.pow_lt_pow_right (by decide) (by omega)
  generalize s / 2 ^ (c + 1) = q at h1 h2
  rw [Nat.testBit_and, h2, ← h1, Nat.testBit_two_pow_mul_add _ hlt, Nat.testBit_two_pow_mul_add _ (by omega)]
  by_cases hj : j < c + 1
  · rw [if_pos hj, if_pos hj, Nat.testBit_two_pow_sub_one, Nat.testBit_two_pow]
    by_cases e : c = j
    · rw [decide_eq_true e, decide_eq_false (show ¬ j < c by omega), decide_eq_true e.symm]; rfl
    · rw [decide_eq_false e]; rfl
  · rw [if_neg hj, if_neg hj, decide_eq_false (show ¬ j = c by omega)]
    cases q.testBit (j - (c + 1)) <;> rfl
theorem lo_lt {s : Nat} (h : 0 < s) : s &&& (s - 1) < s := Nat.lt_of_le_of_lt Nat.and_le_right (by omega)
theorem pw_n : ∀ n, n < 17 → (1 : Int32) <<< (nI n &&& 31) = nI (2 ^ n) := by decide +kernel
theorem pw_le {n : Nat} (h : n ≤ 16) : 2 ^ n ≤ 65536 := Nat.le_trans (Nat.pow_le_pow_right (by decide) h) (by decide)
theorem pw_b {n s k : Nat} (hs : s < 2 ^ n) (h : s.testBit k = true) : k < n := by
  rcases Nat.lt_or_ge k n with q | q
  · exact q
  · rw [Nat.testBit_lt_two_pow (Nat.lt_of_lt_of_le hs (Nat.pow_le_pow_right (by decide) q))] at h; cases h
theorem sN_bit (f : Nat → Nat) {s c : Nat} (hc : c < 16) (ht : s.testBit c = true) (hj : ∀ j, (s &&& (s - 1)).testBit j = (s.testBit j && !decide (j = c))) :
    sN 16 (fun j => if s.testBit j = true then f j else 0) = sN 16 (fun j => if (s &&& (s - 1)).testBit j = true then f j else 0) + f c := by
  have h1 := sN_upd (fun j => if s.testBit j = true then f j else 0) 0 16 c hc
  have h2 : (if s.testBit c = true then f c else 0) = f c := if_pos ht
  simp only [h2] at h1
  have h3 : sN 16 (fun j => if j = c then 0 else if s.testBit j = true then f j else 0) = sN 16 (fun j => if (s &&& (s - 1)).testBit j = true then f j else 0) := sN_congr 16 fun j _ => by
    rw [hj j]
    by_cases e : j = c
    · rw [if_pos e, decide_eq_true e]; simp
    · rw [if_neg e, decide_eq_false e]; simp
  rw [h3] at h1
  omega
def LayA (D : Nat → Nat → Bool) (w g : Nat → Nat) (s : Nat) (σ : Mem) : Prop :=
  (∃ p, σ.1 151 s = sX p ∧ ∀ k, k < 16 → (p k = true ↔ ∃ c, s.testBit c = true ∧ D c k = true)) ∧ σ.1 152 s = nI (wT w s.testBit) ∧ σ.1 153 s = nI (gT w g s.testBit)
def LayU (D : Nat → Nat → Bool) (s : Nat) (σ : Mem) : Prop :=
  ∃ p, σ.1 156 s = sX p ∧ ∀ k, k < 16 → (p k = true ↔ ∃ c, s.testBit c = true ∧ D k c = true)
theorem LayA_fr {D : Nat → Nat → Bool} {w g : Nat → Nat} {s : Nat} {σ σ' : Mem} {ls : List Nat} (h : LayA D w g s σ) (hf : Fr ls σ σ') (hl : 151 ∉ ls ∧ 152 ∉ ls ∧ 153 ∉ ls) : LayA D w g s σ' := by
  unfold LayA
  rw [(hf 151 hl.1).1, (hf 152 hl.2.1).1, (hf 153 hl.2.2).1]; exact h
theorem LayU_fr {D : Nat → Nat → Bool} {s : Nat} {σ σ' : Mem} {ls : List Nat} (h : LayU D s σ) (hf : Fr ls σ σ') (hl : 156 ∉ ls) : LayU D s σ' := by
  unfold LayU
  rw [(hf 156 hl).1]; exact h
theorem tb0 (k : Nat) : (0 : Nat).testBit k = false := Nat.zero_testBit k
section lay
variable {Θ : Th} {d : Nat} {σ : Mem} {Q : Po} {n : Nat} {D : Nat → Nat → Bool} {w g : Nat → Nat}
theorem c215 {s : Nat} (h0 : 0 < s) (hs : s < 65536) (k : ∀ c, c < 16 → s.testBit c = true → (∀ j, (s &&& (s - 1)).testBit j = (s.testBit j && !decide (j = c))) → Q (some (.int (nI c))) σ) : Cm Θ d 215 [.int (nI s)] σ Q := by
  refine K215 (B215_0 ?_)
  have key : ∀ m i, i + m = 16 → (∀ j, j < i → s.testBit j = false) → G Θ d 215 2 [some (.int (nI s)), some (.int (nI i))] [] σ Q := by
    intro m
    induction m with
    | zero =>
      intro i hi hz
      exfalso
      have : s = 0 := Nat.eq_of_testBit_eq fun j => by
        rw [Nat.zero_testBit]
        rcases Nat.lt_or_ge j 16 with q | q
        · exact hz j (by omega)
        · exact Nat.testBit_lt_two_pow (Nat.lt_of_lt_of_le hs (Nat.le_trans (by decide) (Nat.pow_le_pow_right (by decide) q)))
      omega
    | succ m ih =>
      intro i hi hz
      refine B215_2 ?_
      rw [bt_shr _ (by omega), bt_nI _ (by omega), nI_1]
      refine ⟨fun h => k i (by omega) (b01_n.mp h) (lo_and (b01_n.mp h) hz), fun h => ih (i + 1) (by omega) fun j hj => ?_⟩
      by_cases e : j = i
      · rw [e]; exact b01_0.mp h
      · exact hz j (by omega)
  exact key 16 0 rfl (fun j h => absurd h (Nat.not_lt_zero _))
theorem lo_nI {s : Nat} (h : 0 < s) : nI s &&& (nI s - 1) = nI (s &&& (s - 1)) := by
  rw [show (1 : Int32) = nI 1 from rfl, pk_sub (by omega), nI_and]
theorem c219 (hn : σ.1 124 38 = nI n) (h16 : n ≤ 16) (k : Q (some (.int (nI (2 ^ n - 1)))) σ) : Cm Θ d 219 [.ref 124] σ Q := by
  refine K219 (B219_0 ?_)
  have := pw_le h16
  have hp := Nat.two_pow_pos n
  rw [hn, pw_n n (by omega), show (1 : Int32) = nI 1 from rfl, pk_sub (by omega)]; exact k
theorem c216 (hn : σ.1 124 38 = nI n) (h16 : n ≤ 16) (hw : ∀ c, c < n → σ.1 144 c = nI (w c)) (hg : ∀ c, c < n → σ.1 143 c = nI (g c)) (hD : ∀ c, c < n → σ.1 149 c = sX (D c))
    (k : ∀ σ', Fr [151, 152, 153] σ σ' → (∀ s, s < 2 ^ n → LayA D w g s σ') → Q none σ') : Cm Θ (d + 1) 216 [.ref 124] σ Q := by
  have h65 := pw_le h16
  have hp := Nat.two_pow_pos n
  refine K216 (B216_0 ?_)
  refine loopS (α := Mem) (I := fun i s => Fr [151, 152, 153] σ s ∧ ∀ x, x < i + 1 → LayA D w g x s) (P := fun i s => G Θ (d + 1) 216 23 [some (.ref 124), some (.int (nI (i + 1))), none, none] [] s Q) (2 ^ n - 1) ?_ ?_ _ ⟨((Fr.rfl.I (by simp)).I (by simp)).I (by simp), fun x hx => ?_⟩
  · intro s ⟨hf, hs⟩
    have hn' : s.1 124 38 = nI n := by rw [(hf 124 (by simp)).1]; exact hn
    refine B216_23 ⟨fun _ => k s hf fun x hx => hs x (by omega), fun h => absurd ?_ h⟩
    rw [hn', pw_n n (by omega)]; exact nI_le (by omega) (by omega)
  · intro i s hi ⟨hf, hs⟩ ih
    have hn' : s.1 124 38 = nI n := by rw [(hf 124 (by simp)).1]; exact hn
    refine B216_23 ⟨fun h => absurd h ?_, fun _ => ?_⟩
    · rw [hn', pw_n n (by omega)]; exact nI_ge (by omega) (by omega)
    · refine c215 (by omega) (by omega) fun c hc ht hj => ⟨_, rfl, ?_⟩
      have hcn := pw_b (n := n) (by omega) ht
      have hlt := lo_lt (show 0 < i + 1 by omega)
      rw [lo_nI (by omega)]
      have vx := vp_in_nI (show i + 1 < 65536 by omega) (by decide)
      have vr := vp_in_nI (show (i + 1) &&& (i + 1 - 1) < 65536 by omega) (by decide)
      have vc := vp_in_nI (show c < 16 by omega) (by decide)
      refine ⟨vr, vc, vx, vr, vc, vx, vr, vc, vc, vx, ?_⟩
      rw [nI_clamp (show i + 1 < 2147483648 by omega), nI_clamp (show (i + 1) &&& (i + 1 - 1) < 2147483648 by omega), nI_clamp (show c < 2147483648 by omega), nI_1]
      generalize hr : (i + 1) &&& (i + 1 - 1) = r at hj hlt
      obtain ⟨⟨p, hp1, hp2⟩, hq, hv⟩ := hs r (by omega)
      have e1 : (s.1 151 r ||| s.1 149 c) = sX (fun k => p k || D c k) := by
        rw [hp1, (hf 149 (by simp)).1, hD c hcn, sX_or]
      rw [e1]
      generalize hs1 : sI s 151 (i + 1) (sX (fun k => p k || D c k)) = s1
      have f1 : Fr [151] s s1 := by rw [← hs1]; exact Fr.rfl.I (by simp)
      have e2 : (s1.1 152 r + s1.1 144 c) = nI (wT w (i + 1).testBit) := by
        rw [(f1 152 (by simp)).1, (f1 144 (by simp)).1, hq, (hf 144 (by simp)).1, hw c hcn, nI_add, wT, wT, sN_bit w hc ht (by rw [hr]; exact hj), hr]
      rw [e2]
      generalize hs2 : sI s1 152 (i + 1) (nI (wT w (i + 1).testBit)) = s2
      have f2 : Fr [151, 152] s s2 := by rw [← hs2]; exact (f1.mono (by simp)).I (by simp)
      have e3 : (s2.1 153 r + s2.1 144 c * s2.1 143 c) = nI (gT w g (i + 1).testBit) := by
        rw [(f2 153 (by simp)).1, (f2 144 (by simp)).1, (f2 143 (by simp)).1, hv, (hf 144 (by simp)).1, (hf 143 (by simp)).1, hw c hcn, hg c hcn, pk_mul, nI_add, gT, gT, sN_bit (fun c => w c * g c) hc ht (by rw [hr]; exact hj), hr]
      rw [e3]
      refine ih _ ⟨(hf.tr (f2.mono (by simp))).I (by simp), fun x hx => ?_⟩
      by_cases e : x = i + 1
      · subst e
        refine ⟨⟨fun k => p k || D c k, ?_, fun k hk => ?_⟩, ?_, sI_at _ _ _ _⟩
        · rw [sI_of _ _ (by omega), ← hs2, sI_of _ _ (by omega), ← hs1, sI_at]
        · rw [Bool.or_eq_true, hp2 k hk]
          constructor
          · rintro (⟨c', h1, h2⟩ | h1)
            · rw [hj c'] at h1
              exact ⟨c', by cases q : (i + 1).testBit c' <;> simp_all, h2⟩
            · exact ⟨c, ht, h1⟩
          · rintro ⟨c', h1, h2⟩
            by_cases e : c' = c
            · subst e; exact Or.inr h2
            · exact Or.inl ⟨c', by rw [hj c', h1, decide_eq_false e]; rfl, h2⟩
        · rw [sI_of _ _ (by omega), ← hs2, sI_at]
      · obtain ⟨⟨p', a1, a2⟩, a3, a4⟩ := hs x (by omega)
        refine ⟨⟨p', ?_, a2⟩, ?_, ?_⟩
        · rw [sI_of _ _ (by omega), ← hs2, sI_of _ _ (by omega), ← hs1, sI_of _ _ (by omega)]; exact a1
        · rw [sI_of _ _ (by omega), ← hs2, sI_of _ _ (by omega), ← hs1, sI_of _ _ (by omega)]; exact a3
        · rw [sI_of _ _ (by omega), ← hs2, sI_of _ _ (by omega), ← hs1, sI_of _ _ (by omega)]; exact a4
  · have : x = 0 := by omega
    subst this
    refine ⟨⟨fun _ => false, ?_, fun k _ => ⟨fun h => (by cases h), fun ⟨c, h, _⟩ => by rw [tb0] at h; cases h⟩⟩, ?_, ?_⟩
    · rw [sI_of _ _ (by omega), sI_of _ _ (by omega)]
      show (sI σ 151 0 0).1 151 0 = _
      rw [sI_at]; exact sX_0
    · rw [sI_of _ _ (by omega)]
      show (sI _ 152 0 0).1 152 0 = _
      rw [sI_at]; simp only [wT, tb0]; rfl
    · show (sI _ 153 0 0).1 153 0 = _
      rw [sI_at]; simp only [gT, tb0]; rfl
theorem c221 (hn : σ.1 124 38 = nI n) (h16 : n ≤ 16) (hD : ∀ c, c < n → σ.1 150 c = sX (fun b => D b c))
    (k : ∀ σ', Fr [156] σ σ' → (∀ s, s < 2 ^ n → LayU D s σ') → Q none σ') : Cm Θ (d + 1) 221 [.ref 124] σ Q := by
  have h65 := pw_le h16
  have hp := Nat.two_pow_pos n
  refine K221 (B221_0 ?_)
  refine loopS (α := Mem) (I := fun i s => Fr [156] σ s ∧ ∀ x, x < i + 1 → LayU D x s) (P := fun i s => G Θ (d + 1) 221 9 [some (.ref 124), some (.int (nI (i + 1)))] [] s Q) (2 ^ n - 1) ?_ ?_ _ ⟨Fr.rfl.I (by simp), fun x hx => ?_⟩
  · intro s ⟨hf, hs⟩
    have hn' : s.1 124 38 = nI n := by rw [(hf 124 (by simp)).1]; exact hn
    refine B221_9 ⟨fun _ => k s hf fun x hx => hs x (by omega), fun h => absurd ?_ h⟩
    rw [hn', pw_n n (by omega)]; exact nI_le (by omega) (by omega)
  · intro i s hi ⟨hf, hs⟩ ih
    have hn' : s.1 124 38 = nI n := by rw [(hf 124 (by simp)).1]; exact hn
    have hlt := lo_lt (show 0 < i + 1 by omega)
    have vx := vp_in_nI (show i + 1 < 65536 by omega) (by decide)
    have vr := vp_in_nI (show (i + 1) &&& (i + 1 - 1) < 65536 by omega) (by decide)
    refine B221_9 ⟨fun h => absurd h ?_, fun _ => ?_⟩
    · rw [hn', pw_n n (by omega)]; exact nI_ge (by omega) (by omega)
    · rw [lo_nI (by omega)]
      refine ⟨vr, ?_⟩
      refine c215 (by omega) (by omega) fun c hc ht hj => ⟨_, rfl, ?_⟩
      have hcn := pw_b (n := n) (by omega) ht
      have vc := vp_in_nI (show c < 16 by omega) (by decide)
      refine ⟨vc, vx, ?_⟩
      rw [nI_clamp (show i + 1 < 2147483648 by omega), nI_clamp (show (i + 1) &&& (i + 1 - 1) < 2147483648 by omega), nI_clamp (show c < 2147483648 by omega), nI_1]
      generalize hr : (i + 1) &&& (i + 1 - 1) = r at hj hlt
      obtain ⟨p, hp1, hp2⟩ := hs r (by omega)
      have e1 : (s.1 156 r ||| s.1 150 c) = sX (fun k => p k || D k c) := by
        rw [hp1, (hf 150 (by simp)).1, hD c hcn, sX_or]
      rw [e1]
      refine ih _ ⟨hf.I (by simp), fun x hx => ?_⟩
      by_cases e : x = i + 1
      · subst e
        refine ⟨fun k => p k || D k c, sI_at _ _ _ _, fun k hk => ?_⟩
        rw [Bool.or_eq_true, hp2 k hk]
        constructor
        · rintro (⟨c', h1, h2⟩ | h1)
          · rw [hj c'] at h1
            exact ⟨c', by cases q : (i + 1).testBit c' <;> simp_all, h2⟩
          · exact ⟨c, ht, h1⟩
        · rintro ⟨c', h1, h2⟩
          by_cases e : c' = c
          · subst e; exact Or.inr h2
          · exact Or.inl ⟨c', by rw [hj c', h1, decide_eq_false e]; rfl, h2⟩
      · obtain ⟨p', a1, a2⟩ := hs x (by omega)
        exact ⟨p', by rw [sI_of _ _ (by omega)]; exact a1, a2⟩
  · have : x = 0 := by omega
    subst this
    refine ⟨fun _ => false, ?_, fun k _ => ⟨fun h => (by cases h), fun ⟨c, h, _⟩ => by rw [tb0] at h; cases h⟩⟩
    show (sI σ 156 0 0).1 156 0 = _
    rw [sI_at]; exact sX_0
end lay
