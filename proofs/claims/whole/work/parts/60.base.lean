/-! BASE of the contracts: bits, sets of cases as numbers, what stays -/
def b01 (b : Bool) : Int32 := if b = true then 1 else 0
theorem b01_0 {b : Bool} : b01 b = 0 ↔ b = false := by cases b <;> decide
theorem b01_n {b : Bool} : ¬ b01 b = 0 ↔ b = true := by cases b <;> decide
theorem b01_or (b : Bool) : b01 b = 0 ∨ b01 b = 1 := by cases b <;> decide
/-- bit k -/
def bt (x : Int32) (k : Nat) : Bool := x.toBitVec.getLsbD k
theorem sh_amt : ∀ k, k < 32 → ((nI k &&& 31).toBitVec.smod 32#32).toNat = k := by decide +kernel
theorem bt_shr (x : Int32) {k : Nat} (hk : k < 32) : (x >>> (nI k &&& 31)) &&& 1 = b01 (bt x k) := by
  rw [← Int32.toBitVec_inj, Int32.toBitVec_and, Int32.toBitVec_shiftRight]
  have e : x.toBitVec.sshiftRight' ((nI k &&& 31).toBitVec.smod 32#32) = x.toBitVec.sshiftRight k := by
    show x.toBitVec.sshiftRight ((nI k &&& 31).toBitVec.smod 32#32).toNat = _
    rw [sh_amt k hk]
  have e2 : x.toBitVec.sshiftRight' ((nI k &&& 31).toBitVec.smod 32) = x.toBitVec.sshiftRight k := e
  rw [e2]
  show x.toBitVec.sshiftRight k &&& 1#32 = (b01 (bt x k)).toBitVec
  rw [BitVec.and_one_eq_setWidth_ofBool_getLsbD, BitVec.getLsbD_sshiftRight]
  have : (!decide (32 ≤ 0) && if k + 0 < 32 then x.toBitVec.getLsbD (k + 0) else x.toBitVec.msb) = bt x k := by
    simp [hk, bt]
  rw [this]
  cases bt x k <;> decide
theorem bt_or (x y : Int32) (k : Nat) : bt (x ||| y) k = (bt x k || bt y k) := by simp [bt]
theorem bt_and (x y : Int32) (k : Nat) : bt (x &&& y) k = (bt x k && bt y k) := by simp [bt]
theorem bt_xor (x y : Int32) (k : Nat) : bt (x ^^^ y) k = (bt x k ^^ bt y k) := by simp [bt]
theorem bt_m1 {k : Nat} (hk : k < 32) : bt (-1) k = true := by
  have : ∀ k, k < 32 → bt (-1) k = true := by decide +kernel
  exact this k hk
theorem bt_not (x : Int32) {k : Nat} (hk : k < 32) : bt (x ^^^ (-1)) k = !bt x k := by rw [bt_xor, bt_m1 hk]; simp
theorem bt_hi (x : Int32) {k : Nat} (hk : 32 ≤ k) : bt x k = false := BitVec.getLsbD_of_ge _ _ hk
theorem bt_ext {x y : Int32} (h : ∀ k, k < 32 → bt x k = bt y k) : x = y := by
  rw [← Int32.toBitVec_inj]
  exact BitVec.eq_of_getLsbD_eq fun i hi => h i hi
theorem bt_nI (n : Nat) {k : Nat} (hk : k < 32) : bt (nI n) k = n.testBit k := by
  show (BitVec.ofNat 32 n).getLsbD k = _
  rw [BitVec.getLsbD_ofNat]; simp [hk]
theorem bt_0 (k : Nat) : bt 0 k = false := by
  rcases Nat.lt_or_ge k 32 with q | q
  · have : ∀ k, k < 32 → bt 0 k = false := by decide +kernel
    exact this k q
  · exact bt_hi 0 q
theorem bt_one : ∀ k, k < 32 → ∀ j, j < 32 → bt ((1 : Int32) <<< (nI k &&& 31)) j = decide (j = k) := by decide +kernel
/-- some of 0 .. n-1 as a number -/
def nS : Nat → (Nat → Bool) → Nat
  | 0, _ => 0
  | n + 1, p => nS n p ||| (if p n = true then 2 ^ n else 0)
theorem nS_bit (p : Nat → Bool) (k : Nat) : ∀ n, (nS n p).testBit k = (decide (k < n) && p k)
  | 0 => by simp [nS]
  | n + 1 => by
    show (nS n p ||| (if p n = true then 2 ^ n else 0)).testBit k = _
    rw [Nat.testBit_or, nS_bit p k n]
    by_cases hp : p n = true
    · rw [if_pos hp, Nat.testBit_two_pow]
      by_cases h : k = n
      · subst h; simp [hp]
      · have e : decide (n = k) = false := decide_eq_false (fun q => h q.symm)
        rw [e]
        rcases Nat.lt_or_ge k n with q | q
        · simp [q, Nat.lt_succ_of_lt q]
        · have q1 : ¬ k < n := by omega
          have q2 : ¬ k < n + 1 := by omega
          simp [q1, q2]
    · rw [if_neg hp, Nat.zero_testBit, Bool.or_false]
      have hp : p n = false := by cases q : p n <;> simp_all
      by_cases h : k = n
      · subst h; simp [hp]
      · rcases Nat.lt_or_ge k n with q | q
        · simp [q, Nat.lt_succ_of_lt q]
        · have q1 : ¬ k < n := by omega
          have q2 : ¬ k < n + 1 := by omega
          simp [q1, q2]
theorem nS_lt (p : Nat → Bool) (n : Nat) : nS n p < 2 ^ n :=
  Nat.lt_pow_two_of_testBit _ fun i hi => by
    rw [nS_bit]
    have : ¬ i < n := by omega
    simp [this]
def sX (p : Nat → Bool) : Int32 := nI (nS 16 p)
theorem bt_sX (p : Nat → Bool) {k : Nat} (hk : k < 32) : bt (sX p) k = (decide (k < 16) && p k) := by
  rw [sX, bt_nI _ hk, nS_bit]
theorem sX_ext {x : Int32} {p : Nat → Bool} (h : ∀ k, k < 32 → bt x k = (decide (k < 16) && p k)) : x = sX p :=
  bt_ext fun k hk => by rw [h k hk, bt_sX p hk]
theorem sX_congr {p q : Nat → Bool} (h : ∀ k, k < 16 → p k = q k) : sX p = sX q :=
  bt_ext fun k hk => by
    rw [bt_sX p hk, bt_sX q hk]
    by_cases e : k < 16
    · rw [h k e]
    · simp [e]
theorem sX_iff {p q : Nat → Bool} : sX p = sX q ↔ ∀ k, k < 16 → p k = q k := by
  refine ⟨fun h k hk => ?_, sX_congr⟩
  have h1 := bt_sX p (k := k) (by omega)
  rw [h, bt_sX q (by omega)] at h1
  simp only [hk, decide_true, Bool.true_and] at h1
  exact h1.symm
theorem sX_shr (p : Nat → Bool) {k : Nat} (hk : k < 16) : (sX p >>> (nI k &&& 31)) &&& 1 = b01 (p k) := by
  rw [bt_shr _ (by omega), bt_sX p (by omega)]; simp [hk]
theorem sX_or (p q : Nat → Bool) : sX p ||| sX q = sX (fun k => p k || q k) := sX_ext fun k hk => by
  rw [bt_or, bt_sX p hk, bt_sX q hk]; cases decide (k < 16) <;> simp
theorem sX_and (p q : Nat → Bool) : sX p &&& sX q = sX (fun k => p k && q k) := sX_ext fun k hk => by
  rw [bt_and, bt_sX p hk, bt_sX q hk]; cases decide (k < 16) <;> simp
theorem sX_dif (p q : Nat → Bool) : sX p &&& (sX q ^^^ (-1)) = sX (fun k => p k && !q k) := sX_ext fun k hk => by
  rw [bt_and, bt_not _ hk, bt_sX p hk, bt_sX q hk]; cases decide (k < 16) <;> simp
theorem sX_0 : (0 : Int32) = sX (fun _ => false) := sX_ext fun k hk => by rw [bt_0]; simp
theorem sX_1 {k : Nat} (hk : k < 16) : (1 : Int32) <<< (nI k &&& 31) = sX (fun j => decide (j = k)) := sX_ext fun j hj => by
  rw [bt_one k (by omega) j hj]
  by_cases e : j = k
  · subst e; simp [hk]
  · simp [e]
theorem sX_eq0 {p : Nat → Bool} : sX p = 0 ↔ ∀ k, k < 16 → p k = false := by rw [sX_0, sX_iff]
theorem sX_add1 (p : Nat → Bool) {k : Nat} (hk : k < 16) : sX p ||| ((1 : Int32) <<< (nI k &&& 31)) = sX (fun j => p j || decide (j = k)) := by rw [sX_1 hk, sX_or]
theorem sX_nS {s : Nat} (h : s < 65536) : nI s = sX (fun k => s.testBit k) := sX_ext fun k hk => by
  rw [bt_nI _ hk]
  by_cases e : k < 16
  · simp [e]
  · have : s.testBit k = false := Nat.testBit_lt_two_pow (Nat.lt_of_lt_of_le h (show 2 ^ 16 ≤ 2 ^ k from Nat.pow_le_pow_right (by decide) (by omega)))
    simp [e, this]
/-! what stays: all but the cells of these labels -/
def Fr (ls : List Nat) (σ σ' : Mem) : Prop := ∀ j, j ∉ ls → σ'.1 j = σ.1 j ∧ σ'.2.1 j = σ.2.1 j ∧ σ'.2.2 j = σ.2.2 j
theorem Fr.rfl {ls : List Nat} {σ : Mem} : Fr ls σ σ := fun _ _ => ⟨Eq.refl _, Eq.refl _, Eq.refl _⟩
theorem Fr.tr {ls : List Nat} {σ σ' σ'' : Mem} (h : Fr ls σ σ') (h' : Fr ls σ' σ'') : Fr ls σ σ'' := fun j hj =>
  ⟨(h' j hj).1.trans (h j hj).1, (h' j hj).2.1.trans (h j hj).2.1, (h' j hj).2.2.trans (h j hj).2.2⟩
theorem Fr.mono {ls ls' : List Nat} {σ σ' : Mem} (hl : ∀ j, j ∈ ls → j ∈ ls') (h : Fr ls σ σ') : Fr ls' σ σ' := fun j hj => h j fun q => hj (hl j q)
theorem Fr.I {ls : List Nat} {σ σ' : Mem} {o k : Nat} {v : Int32} (h : Fr ls σ σ') (ho : o ∈ ls) : Fr ls σ (sI σ' o k v) := fun j hj => by
  have hn : j ≠ o := fun q => hj (q ▸ ho)
  exact ⟨(sI_ne hn).trans (h j hj).1, (h j hj).2.1, (h j hj).2.2⟩
theorem Fr.L {ls : List Nat} {σ σ' : Mem} {o k : Nat} {v : Int64} (h : Fr ls σ σ') (ho : o ∈ ls) : Fr ls σ (sL σ' o k v) := fun j hj => by
  have hn : j ≠ o := fun q => hj (q ▸ ho)
  exact ⟨(h j hj).1, (sL_ne hn).trans (h j hj).2.1, (h j hj).2.2⟩
theorem Fr.R {ls : List Nat} {σ σ' : Mem} {o k v : Nat} (h : Fr ls σ σ') (ho : o ∈ ls) : Fr ls σ (sR σ' o k v) := fun j hj => by
  have hn : j ≠ o := fun q => hj (q ▸ ho)
  exact ⟨(h j hj).1, (h j hj).2.1, (sR_ne hn).trans (h j hj).2.2⟩
theorem sI_at (σ : Mem) (o k : Nat) (v : Int32) : (sI σ o k v).1 o k = v := by simp [sI]
theorem sI_of (σ : Mem) {o k a b : Nat} (v : Int32) (h : ¬ (a = o ∧ b = k)) : (sI σ o k v).1 a b = σ.1 a b := by simp [sI, h]
theorem sI_L (σ : Mem) (o k : Nat) (v : Int32) : (sI σ o k v).2.1 = σ.2.1 := rfl
theorem sI_R (σ : Mem) (o k : Nat) (v : Int32) : (sI σ o k v).2.2 = σ.2.2 := rfl
theorem sL_at (σ : Mem) (o k : Nat) (v : Int64) : (sL σ o k v).2.1 o k = v := by simp [sL]
theorem sL_of (σ : Mem) {o k a b : Nat} (v : Int64) (h : ¬ (a = o ∧ b = k)) : (sL σ o k v).2.1 a b = σ.2.1 a b := by simp [sL, h]
theorem sL_I (σ : Mem) (o k : Nat) (v : Int64) : (sL σ o k v).1 = σ.1 := rfl
theorem sL_R (σ : Mem) (o k : Nat) (v : Int64) : (sL σ o k v).2.2 = σ.2.2 := rfl
theorem sR_at (σ : Mem) (o k v : Nat) : (sR σ o k v).2.2 o k = v := by simp [sR]
theorem sR_of (σ : Mem) {o k a b : Nat} (v : Nat) (h : ¬ (a = o ∧ b = k)) : (sR σ o k v).2.2 a b = σ.2.2 a b := by simp [sR, h]
theorem sR_I (σ : Mem) (o k v : Nat) : (sR σ o k v).1 = σ.1 := rfl
theorem sR_L (σ : Mem) (o k v : Nat) : (sR σ o k v).2.1 = σ.2.1 := rfl
/-! answers -/
theorem Ci.at {Θ : Th} {d mi : Nat} {as : List Value} {σ : Mem} {q : Int32 → Mem → Prop} (h : Ci Θ d mi as σ (fun v σ' => v = v ∧ q v σ')) : Ci Θ d mi as σ q := h.mono fun _ _ h => h.2
theorem Pi_mk {q : Int32 → Mem → Prop} {v : Int32} {σ : Mem} (h : q v σ) : ∃ x, (some (Value.int v)) = some (Value.int x) ∧ q x σ := ⟨v, rfl, h⟩
theorem Pl_mk {q : Int64 → Mem → Prop} {v : Int64} {σ : Mem} (h : q v σ) : ∃ x, (some (Value.long v)) = some (Value.long x) ∧ q x σ := ⟨v, rfl, h⟩
theorem Pr_mk {q : Nat → Mem → Prop} {v : Nat} {σ : Mem} (h : q v σ) : ∃ x, (some (Value.ref v)) = some (Value.ref x) ∧ q x σ := ⟨v, rfl, h⟩
