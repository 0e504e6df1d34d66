/-! HOW MANY BITS: Integer.bitCount, and the reference's own count -/
theorem nI_and (a b : Nat) : nI a &&& nI b = nI (a &&& b) := by
  apply Int32.toBitVec_inj.1
  show BitVec.ofNat 32 a &&& BitVec.ofNat 32 b = BitVec.ofNat 32 (a &&& b)
  apply BitVec.eq_of_getLsbD_eq
  intro i hi
  simp [hi]
def pop4 (s : Nat) : Nat :=
  let i1 := s - (s / 2 &&& 1431655765)
  let i2 := (i1 &&& 858993459) + (i1 / 4 &&& 858993459)
  let i3 := (i2 + i2 / 16) &&& 252645135
  let i4 := i3 + i3 / 256
  (i4 + i4 / 65536) &&& 63
def pc8 (y : Nat) : Nat := sN 8 (fun k => y / 2 ^ k % 2)
set_option maxRecDepth 100000 in
theorem pop4_0 : allB 64 (fun a => allB 256 (fun b => Nat.beq (pop4 (256 * a + b)) (pc8 a + pc8 b))) = true := by decide +kernel
set_option maxRecDepth 100000 in
theorem pop4_1 : allB 64 (fun a => allB 256 (fun b => Nat.beq (pop4 (256 * (64 + a) + b)) (pc8 (64 + a) + pc8 b))) = true := by decide +kernel
set_option maxRecDepth 100000 in
theorem pop4_2 : allB 64 (fun a => allB 256 (fun b => Nat.beq (pop4 (256 * (128 + a) + b)) (pc8 (128 + a) + pc8 b))) = true := by decide +kernel
set_option maxRecDepth 100000 in
theorem pop4_3 : allB 64 (fun a => allB 256 (fun b => Nat.beq (pop4 (256 * (192 + a) + b)) (pc8 (192 + a) + pc8 b))) = true := by decide +kernel
theorem pop4_ok {a b : Nat} (ha : a < 256) (hb : b < 256) : pop4 (256 * a + b) = pc8 a + pc8 b := by
  have go : ∀ c, c ≤ a → a - c < 64 → allB 64 (fun a => allB 256 (fun b => Nat.beq (pop4 (256 * (c + a) + b)) (pc8 (c + a) + pc8 b))) = true → pop4 (256 * a + b) = pc8 a + pc8 b := by
    intro c h1 h2 h
    have h3 := (allB_iff 256).mp ((allB_iff 64).mp h (a - c) h2) b hb
    rw [show c + (a - c) = a from by omega] at h3
    exact Nat.eq_of_beq_eq_true h3
  rcases Nat.lt_or_ge a 64 with q | q
  · have h3 := (allB_iff 256).mp ((allB_iff 64).mp pop4_0 a q) b hb
    exact Nat.eq_of_beq_eq_true h3
  · rcases Nat.lt_or_ge a 128 with q | q
    · exact go 64 (by omega) (by omega) pop4_1
    · rcases Nat.lt_or_ge a 192 with q | q
      · exact go 128 (by omega) (by omega) pop4_2
      · exact go 192 (by omega) (by omega) pop4_3
theorem cN_bits (s : Nat) : ∀ n, cN n (fun k => s.testBit k) = sN n (fun k => s / 2 ^ k % 2)
  | 0 => rfl
  | n + 1 => by
    show cN n (fun k => s.testBit k) + (if s.testBit n = true then 1 else 0) = sN n (fun k => s / 2 ^ k % 2) + s / 2 ^ n % 2
    rw [cN_bits s n, Nat.testBit_eq_decide_div_mod_eq]
    congr 1
    by_cases h : s / 2 ^ n % 2 = 1
    · rw [if_pos (decide_eq_true h), h]
    · rw [if_neg (by simpa using h)]; omega
theorem pop4_is {s : Nat} (h : s < 65536) : pop4 s = cN 16 (fun k => s.testBit k) := by
  have e : s = 2 ^ 8 * (s / 256) + s % 256 := by omega
  have h1 := pop4_ok (a := s / 256) (b := s % 256) (by omega) (by omega)
  rw [show 256 * (s / 256) + s % 256 = s from by omega] at h1
  rw [h1, show (16 : Nat) = 8 + 8 from rfl, cN_split, pc8, pc8, ← cN_bits, ← cN_bits, Nat.add_comm]
  congr 1
  · refine cN_congr 8 fun k hk => ?_
    conv => rhs; rw [e, Nat.testBit_two_pow_mul_add _ (by omega), if_pos hk]
  · refine cN_congr 8 fun k hk => ?_
    conv => rhs; rw [e, Nat.testBit_two_pow_mul_add _ (by omega), if_neg (by omega), show 8 + k - 8 = k from by omega]
section count
variable {Θ : Th} {d : Nat} {σ : Mem} {Q : Po}
theorem c286 {p : Nat → Bool} (k : Q (some (.int (nI (cN 16 p)))) σ) : Cm Θ d 286 [.int (sX p)] σ Q := by
  have hs : nS 16 p < 65536 := nS_lt p 16
  have e : cN 16 p = pop4 (nS 16 p) := by
    rw [pop4_is hs]
    exact cN_congr 16 fun k hk => by rw [nS_bit]; simp [hk]
  rw [e] at k
  refine K286 (B286_0 ?_)
  show Q (some (.int _)) σ
  rw [show sX p = nI (nS 16 p) from rfl]
  generalize nS 16 p = s at hs k
  have a1 : s / 2 &&& 1431655765 ≤ s := Nat.le_trans Nat.and_le_left (Nat.div_le_self _ _)
  have q1 : nI s - ((((nI s).toUInt32 >>> ((1 : Int32).toUInt32 &&& Int32.toUInt32 31)).toInt32) &&& 1431655765) = nI (s - (s / 2 &&& 1431655765)) := by
    rw [pk_ushrN (by omega) 1 1 rfl, show (1431655765 : Int32) = nI 1431655765 from rfl, nI_and, pk_sub (by simpa using a1)]
  rw [q1]
  generalize hi1 : s - (s / 2 &&& 1431655765) = i1
  have b1 : i1 < 65536 := by omega
  have q2 : (nI i1 &&& 858993459) + ((((nI i1).toUInt32 >>> ((2 : Int32).toUInt32 &&& Int32.toUInt32 31)).toInt32) &&& 858993459) = nI ((i1 &&& 858993459) + (i1 / 4 &&& 858993459)) := by
    rw [pk_ushrN (by omega) 2 2 rfl, show (858993459 : Int32) = nI 858993459 from rfl, nI_and, nI_and, nI_add]
  rw [q2]
  have l1 : i1 &&& 858993459 ≤ i1 := Nat.and_le_left
  have l2 : i1 / 4 &&& 858993459 ≤ i1 / 4 := Nat.and_le_left
  generalize hi2 : (i1 &&& 858993459) + (i1 / 4 &&& 858993459) = i2
  have b2 : i2 < 131072 := by omega
  have q3 : (nI i2 + (((nI i2).toUInt32 >>> ((4 : Int32).toUInt32 &&& Int32.toUInt32 31)).toInt32)) &&& 252645135 = nI ((i2 + i2 / 16) &&& 252645135) := by
    rw [pk_ushrN (by omega) 4 4 rfl, show (252645135 : Int32) = nI 252645135 from rfl, nI_add, nI_and]
  rw [q3]
  have l3 : (i2 + i2 / 16) &&& 252645135 ≤ i2 + i2 / 16 := Nat.and_le_left
  generalize hi3 : (i2 + i2 / 16) &&& 252645135 = i3
  have b3 : i3 < 262144 := by omega
  have q4 : nI i3 + (((nI i3).toUInt32 >>> ((8 : Int32).toUInt32 &&& Int32.toUInt32 31)).toInt32) = nI (i3 + i3 / 256) := by
    rw [pk_ushrN (by omega) 8 8 rfl, nI_add]
  rw [q4]
  generalize hi4 : i3 + i3 / 256 = i4
  have b4 : i4 < 524288 := by omega
  have q5 : (nI i4 + (((nI i4).toUInt32 >>> ((16 : Int32).toUInt32 &&& Int32.toUInt32 31)).toInt32)) &&& 63 = nI ((i4 + i4 / 65536) &&& 63) := by
    rw [pk_ushrN (by omega) 16 16 rfl, show (63 : Int32) = nI 63 from rfl, nI_add, nI_and]
  rw [q5]
  have : pop4 s = (i4 + i4 / 65536) &&& 63 := by simp only [pop4, hi1, hi2, hi3, hi4]
  rw [← this]; exact k
theorem c230 {s : Nat} (hs : s < 65536) (k : Q (some (.int (nI (pc 16 s)))) σ) : Cm Θ d 230 [.int (nI s)] σ Q := by
  refine K230 (B230_0 ?_)
  refine loopN (P := fun i => G Θ d 230 4 [some (.int (nI s)), some (.int (nI (cN i (fun k => s.testBit k)))), some (.int (nI i))] [] σ Q) 16 ?_ ?_
  · exact B230_4 ⟨fun _ => k, fun h => absurd (by decide) h⟩
  · intro i hi ih
    refine B230_4 ⟨fun h => absurd h (nI_ge hi (by decide)), fun _ => ?_⟩
    have e : (nI s >>> (nI i &&& 31)) &&& 1 = nI (if s.testBit i = true then 1 else 0) := by
      rw [bt_shr _ (by omega), bt_nI _ (by omega)]
      cases s.testBit i <;> rfl
    rw [e, nI_add, nI_1]; exact ih
end count
