/-! CHOICES of so many that share so much: counted over a list; the order of the list is nothing to it -/
def cw : List Int → Nat → Int → Nat
  | [], 0, m => if m ≤ 0 then 1 else 0
  | [], _ + 1, _ => 0
  | _ :: xs, 0, m => cw xs 0 m
  | x :: xs, s + 1, m => cw xs s (m - x) + cw xs (s + 1) m
theorem cw_0 : ∀ (l : List Int) (m : Int), cw l 0 m = if m ≤ 0 then 1 else 0
  | [], _ => rfl
  | _ :: xs, m => cw_0 xs m
theorem cw_swap (x y : Int) (l : List Int) : ∀ (s : Nat) (m : Int), cw (x :: y :: l) s m = cw (y :: x :: l) s m
  | 0, _ => rfl
  | 1, m => by
    show cw (y :: l) 0 (m - x) + (cw l 0 (m - y) + cw l 1 m) = cw (x :: l) 0 (m - y) + (cw l 0 (m - x) + cw l 1 m)
    rw [cw_0, cw_0, cw_0, cw_0]; omega
  | s + 2, m => by
    show (cw l s (m - x - y) + cw l (s + 1) (m - x)) + (cw l (s + 1) (m - y) + cw l (s + 2) m) = (cw l s (m - y - x) + cw l (s + 1) (m - y)) + (cw l (s + 1) (m - x) + cw l (s + 2) m)
    rw [show m - x - y = m - y - x from by omega]; omega
theorem cw_cons {l l' : List Int} (x : Int) (h : ∀ s m, cw l s m = cw l' s m) : ∀ s m, cw (x :: l) s m = cw (x :: l') s m
  | 0, m => h 0 m
  | s + 1, m => by show cw l s (m - x) + cw l (s + 1) m = _; rw [h s (m - x), h (s + 1) m]; rfl
theorem cw_perm {l l' : List Int} (h : l.Perm l') : ∀ s m, cw l s m = cw l' s m := by
  induction h with
  | nil => intro s m; rfl
  | cons x _ ih => exact cw_cons x ih
  | swap x y l => intro s m; exact cw_swap y x l s m
  | trans _ _ ih1 ih2 => intro s m; rw [ih1, ih2]
/-- how many choices of s of n there are -/
def bin : Nat → Nat → Nat
  | _, 0 => 1
  | 0, _ + 1 => 0
  | n + 1, s + 1 => bin n s + bin n (s + 1)
def sL2 : List Int → Int
  | [] => 0
  | x :: xs => x + sL2 xs
theorem cw_few : ∀ (l : List Int) (s : Nat) (m : Int), l.length < s → cw l s m = 0
  | [], 0, _, h => by simp at h
  | [], _ + 1, _, _ => rfl
  | x :: xs, 0, _, h => by simp at h
  | x :: xs, s + 1, m, h => by
    show cw xs s (m - x) + cw xs (s + 1) m = 0
    simp at h
    rw [cw_few xs s _ (by omega), cw_few xs (s + 1) _ (by omega)]
theorem bin_few : ∀ n s, n < s → bin n s = 0
  | 0, s + 1, _ => rfl
  | n + 1, s + 1, h => by show bin n s + bin n (s + 1) = 0; rw [bin_few n s (by omega), bin_few n (s + 1) (by omega)]
/-- from falling numbers: the first s are the most that s can be together, the last s the least -/
def desc : List Int → Prop
  | [] => True
  | x :: xs => (∀ y, y ∈ xs → y ≤ x) ∧ desc xs
theorem take_le {l : List Int} (h : desc l) : ∀ (x : Int) (s : Nat), (∀ y, y ∈ l → y ≤ x) → s + 1 ≤ l.length → sL2 (l.take (s + 1)) ≤ x + sL2 (l.take s) := by
  induction l with
  | nil => intro x s _ hs; simp at hs
  | cons y ys ih =>
    intro x s hx hs
    cases s with
    | zero => simp [sL2]; have := hx y List.mem_cons_self; omega
    | succ s =>
      simp only [List.take_succ_cons, sL2]
      have := ih h.2 x s (fun z hz => hx z (List.mem_cons_of_mem _ hz)) (by simp at hs; omega)
      omega
theorem cw_max : ∀ (l : List Int), desc l → ∀ (s : Nat) (m : Int), s ≤ l.length → sL2 (l.take s) < m → cw l s m = 0
  | [], _, 0, m, _, hm => by simp [sL2] at hm; show (if m ≤ 0 then 1 else 0) = 0; rw [if_neg (by omega)]
  | [], _, s + 1, _, hs, _ => by simp at hs
  | x :: xs, _, 0, m, _, hm => by
    rw [cw_0, if_neg (by simp [sL2] at hm; omega)]
  | x :: xs, h, s + 1, m, hs, hm => by
    simp only [List.take_succ_cons, sL2] at hm
    simp at hs
    show cw xs s (m - x) + cw xs (s + 1) m = 0
    rw [cw_max xs h.2 s (m - x) hs (by omega)]
    rcases Nat.lt_or_ge xs.length (s + 1) with q | q
    · rw [cw_few xs (s + 1) m q]
    · rw [cw_max xs h.2 (s + 1) m q (by have := take_le h.2 x s h.1 q; omega)]
theorem drop_ge {l : List Int} (h : desc l) : ∀ (x : Int), (∀ y, y ∈ l → y ≤ x) → ∀ s, s + 1 ≤ l.length → sL2 (l.drop (l.length - (s + 1))) ≤ x + sL2 (l.drop (l.length - s)) := by
  induction l with
  | nil => intro x _ s hs; simp at hs
  | cons y ys ih =>
    intro x hx s hs
    simp at hs
    rcases Nat.lt_or_ge s ys.length with q | q
    · have e1 : (y :: ys).length - (s + 1) = (ys.length - (s + 1)) + 1 := by simp; omega
      have e2 : (y :: ys).length - s = (ys.length - s) + 1 := by simp; omega
      rw [e1, e2, List.drop_succ_cons, List.drop_succ_cons]
      exact ih h.2 x (fun z hz => hx z (List.mem_cons_of_mem _ hz)) s q
    · have e1 : (y :: ys).length - (s + 1) = 0 := by simp; omega
      have e2 : (y :: ys).length - s = 1 := by simp; omega
      rw [e1, e2]
      simp only [List.drop_zero, sL2]
      show y + sL2 ys ≤ x + sL2 ys
      have := hx y List.mem_cons_self; omega
theorem cw_all : ∀ (l : List Int), desc l → ∀ (s : Nat) (m : Int), s ≤ l.length → m ≤ sL2 (l.drop (l.length - s)) → cw l s m = bin l.length s
  | [], _, 0, m, _, hm => by simp [sL2] at hm; show (if m ≤ 0 then 1 else 0) = 1; rw [if_pos hm]
  | [], _, s + 1, _, hs, _ => by simp at hs
  | x :: xs, _, 0, m, _, hm => by
    rw [cw_0]
    simp [sL2] at hm
    rw [if_pos hm]; simp [bin]
  | x :: xs, h, s + 1, m, hs, hm => by
    simp at hs
    show cw xs s (m - x) + cw xs (s + 1) m = bin xs.length s + bin xs.length (s + 1)
    rcases Nat.lt_or_ge s xs.length with q | q
    · have e1 : (x :: xs).length - (s + 1) = (xs.length - (s + 1)) + 1 := by simp; omega
      rw [e1, List.drop_succ_cons] at hm
      have h1 := drop_ge h.2 x h.1 s q
      rw [cw_all xs h.2 s (m - x) (by omega) (by omega), cw_all xs h.2 (s + 1) m q hm]
    · have e0 : s = xs.length := by omega
      have e1 : (x :: xs).length - (s + 1) = 0 := by simp; omega
      rw [e1] at hm
      simp only [List.drop_zero, sL2] at hm
      rw [cw_few xs (s + 1) m (by omega), bin_few xs.length (s + 1) (by omega), cw_all xs h.2 s (m - x) (by omega) (by rw [e0, Nat.sub_self]; simp only [List.drop_zero]; omega)]
/-- the same, counted over sets as numbers -/
def rowL : Nat → (Nat → Int) → List Int
  | 0, _ => []
  | n + 1, f => f n :: rowL n f
theorem cN_split (p : Nat → Bool) (m : Nat) : ∀ n, cN (m + n) p = cN m p + cN n (fun k => p (m + k))
  | 0 => rfl
  | n + 1 => by
    show cN (m + n) p + (if p (m + n) = true then 1 else 0) = cN m p + (cN n (fun k => p (m + k)) + (if p (m + n) = true then 1 else 0))
    rw [cN_split p m n, Nat.add_assoc]
def qD (n : Nat) (f : Nat → Int) (s : Nat) (m : Int) (k : Nat) : Bool := decide (cN n (fun j => k.testBit j) = s) && decide (m ≤ sZ n (fun j => if k.testBit j = true then f j else 0))
theorem low_bits {n k : Nat} (hk : k < 2 ^ n) : cN (n + 1) (fun j => k.testBit j) = cN n (fun j => k.testBit j) ∧ ∀ f : Nat → Int, sZ (n + 1) (fun j => if k.testBit j = true then f j else 0) = sZ n (fun j => if k.testBit j = true then f j else 0) := by
  have hb : k.testBit n = false := Nat.testBit_lt_two_pow hk
  refine ⟨?_, fun f => ?_⟩
  · show cN n _ + (if k.testBit n = true then 1 else 0) = _
    rw [hb]; rfl
  · show sZ n _ + (if k.testBit n = true then f n else 0) = _
    rw [hb]; simp
theorem high_bits {n k : Nat} (hk : k < 2 ^ n) : cN (n + 1) (fun j => (2 ^ n + k).testBit j) = cN n (fun j => k.testBit j) + 1 ∧ ∀ f : Nat → Int, sZ (n + 1) (fun j => if (2 ^ n + k).testBit j = true then f j else 0) = sZ n (fun j => if k.testBit j = true then f j else 0) + f n := by
  have hb : (2 ^ n + k).testBit n = true := by rw [Nat.testBit_two_pow_add_eq, Nat.testBit_lt_two_pow hk]; rfl
  refine ⟨?_, fun f => ?_⟩
  · show cN n _ + (if (2 ^ n + k).testBit n = true then 1 else 0) = _
    rw [hb, cN_congr n (g := fun j => k.testBit j) (fun j hj => Nat.testBit_two_pow_add_gt hj k)]; rfl
  · show sZ n _ + (if (2 ^ n + k).testBit n = true then f n else 0) = _
    rw [hb, sZ_congr n (g := fun j => if k.testBit j = true then f j else 0) (fun j hj => by rw [Nat.testBit_two_pow_add_gt hj k])]; rfl
theorem sets_n (n : Nat) (p : Nat → Bool) : cN (2 ^ (n + 1)) p = cN (2 ^ n) p + cN (2 ^ n) (fun k => p (2 ^ n + k)) := by
  rw [show 2 ^ (n + 1) = 2 ^ n + 2 ^ n from by omega, cN_split]
theorem cw_sets (f : Nat → Int) : ∀ n s m, cN (2 ^ n) (qD n f s m) = cw (rowL n f) s m
  | 0, s, m => by
    show 0 + (if qD 0 f s m 0 = true then 1 else 0) = cw [] s m
    cases s with
    | zero => by_cases h : m ≤ 0 <;> simp [qD, cN, sZ, cw, h]
    | succ s => simp [qD, cN, cw]
  | n + 1, s, m => by
    rw [sets_n]
    have e1 : cN (2 ^ n) (qD (n + 1) f s m) = cN (2 ^ n) (qD n f s m) := cN_congr _ fun k hk => by
      rw [qD, qD, (low_bits hk).1, (low_bits hk).2 f]
    rw [e1, cw_sets f n s m]
    cases s with
    | zero =>
      rw [cN_0 _ (fun k hk => by rw [qD, (high_bits hk).1]; simp)]; rfl
    | succ s =>
      have e2 : cN (2 ^ n) (fun k => qD (n + 1) f (s + 1) m (2 ^ n + k)) = cN (2 ^ n) (qD n f s (m - f n)) := cN_congr _ fun k hk => by
        rw [qD, qD, (high_bits hk).1, (high_bits hk).2 f]
        congr 1
        · simp
        · rw [decide_eq_decide]; omega
      rw [e2, cw_sets f n s (m - f n)]
      show cw (rowL n f) (s + 1) m + cw (rowL n f) s (m - f n) = cw (rowL n f) s (m - f n) + cw (rowL n f) (s + 1) m
      omega
theorem bin_sets : ∀ n s, cN (2 ^ n) (fun k => decide (cN n (fun j => k.testBit j) = s)) = bin n s
  | 0, s => by
    show 0 + (if decide (cN 0 (fun j => (0 : Nat).testBit j) = s) = true then 1 else 0) = bin 0 s
    cases s with
    | zero => simp [cN, bin]
    | succ s => simp [cN, bin]
  | n + 1, s => by
    rw [sets_n]
    have e1 : cN (2 ^ n) (fun k => decide (cN (n + 1) (fun j => k.testBit j) = s)) = cN (2 ^ n) (fun k => decide (cN n (fun j => k.testBit j) = s)) := cN_congr _ fun k hk => by
      rw [(low_bits hk).1]
    rw [e1, bin_sets n s]
    cases s with
    | zero =>
      rw [cN_0 _ (fun k hk => by rw [(high_bits hk).1]; simp)]
      cases n <;> rfl
    | succ s =>
      have e2 : cN (2 ^ n) (fun k => decide (cN (n + 1) (fun j => (2 ^ n + k).testBit j) = s + 1)) = cN (2 ^ n) (fun k => decide (cN n (fun j => k.testBit j) = s)) := cN_congr _ fun k hk => by
        rw [(high_bits hk).1]; simp
      rw [e2, bin_sets n s]
      show bin n (s + 1) + bin n s = bin n s + bin n (s + 1)
      omega
