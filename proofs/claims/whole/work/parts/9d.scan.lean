/-! CONTRACTS: the class's scanning -/
def sgb (v : Nat) : Int := if v < 128 then v else (v : Int) - 256
theorem sgb_cmp {v : Nat} (hv : v < 256) {c : Nat} (hc : c < 128) : (iI (sgb v) < iI (c : Int) ↔ sgb v < c) ∧ (iI (c : Int) < iI (sgb v) ↔ (c : Int) < sgb v) ∧ (iI (sgb v) = iI (c : Int) ↔ sgb v = c) := by
  have h1 : -128 ≤ sgb v := by unfold sgb; split <;> omega
  have h2 : sgb v < 128 := by unfold sgb; split <;> omega
  exact ⟨iI_lt (by omega) (by omega) (by omega) (by omega), iI_lt (by omega) (by omega) (by omega) (by omega), iI_eq (by omega) (by omega) (by omega) (by omega)⟩
theorem sgb_lo {v : Nat} (h : v < 128) : sgb v = v := if_pos h
theorem ch_v {v : Nat} (hv : v < 256) : (((iI (sgb v)) &&& 255).toUInt32 % 65536).toInt32 = nI v := by
  have : ∀ x : Fin 256, (((iI (sgb x.val)) &&& 255).toUInt32 % 65536).toInt32 = nI x.val := by decide +kernel
  exact this ⟨v, hv⟩
theorem sg_v {v : Nat} (hv : v < 256) : ((∀ j, j < 8 → strV j ≠ (nI v).toInt8.toInt32) → isG v = false) ∧ ∀ j, j < 8 → strV j = (nI v).toInt8.toInt32 → isG v = true := by
  have : ∀ x : Fin 256, ((∀ j, j < 8 → strV j ≠ (nI x.val).toInt8.toInt32) → isG x.val = false) ∧ ∀ j, j < 8 → strV j = (nI x.val).toInt8.toInt32 → isG x.val = true := by decide +kernel
  exact this ⟨v, hv⟩
theorem nI_64 {v : Nat} (h : v < 2147483648) : (nI v).toInt64 = jJ v := by rw [iI_nI, iI_l (by omega) (by omega)]
theorem jJ_bv (w : Nat) : (jJ (w : Int)).toBitVec = BitVec.ofNat 64 w := by
  show (Int64.ofInt (w : Int)).toBitVec = _
  rw [Int64.toBitVec_ofInt, BitVec.ofInt_natCast]
theorem jJ_inj {a c : Nat} (ha : a < 2 ^ 64) (hc : c < 2 ^ 64) : jJ (a : Int) = jJ (c : Int) ↔ a = c := by
  constructor
  · intro h
    have h : (jJ (a : Int)).toBitVec.toNat = (jJ (c : Int)).toBitVec.toNat := by rw [h]
    rw [jJ_bv, jJ_bv, BitVec.toNat_ofNat, BitVec.toNat_ofNat, Nat.mod_eq_of_lt ha, Nat.mod_eq_of_lt hc] at h
    exact h
  · intro h; rw [h]
theorem shl8 {w c : Nat} (hw : w * 256 + c < 2 ^ 64) (hc : c < 256) : ((jJ (w : Int)) <<< ((8 : Int32).toInt64 &&& 63)) ||| jJ (c : Int) = jJ ((w * 256 + c : Nat) : Int) := by
  have e : ((8 : Int32).toInt64 &&& 63) = 8 := by decide +kernel
  rw [e]
  apply Int64.toBitVec_inj.mp
  rw [Int64.toBitVec_or, Int64.toBitVec_shiftLeft, jJ_bv, jJ_bv, jJ_bv]
  have e8 : (8 : Int64).toBitVec.smod 64 = 8#64 := by decide +kernel
  rw [e8]
  have e8n : (8#64).toNat = 8 := by decide +kernel
  apply BitVec.eq_of_toNat_eq
  rw [BitVec.toNat_or, BitVec.shiftLeft_eq', e8n, BitVec.toNat_shiftLeft, BitVec.toNat_ofNat, BitVec.toNat_ofNat, BitVec.toNat_ofNat]
  have h1 : w % 2 ^ 64 = w := Nat.mod_eq_of_lt (by omega)
  have h2 : c % 2 ^ 64 = c := Nat.mod_eq_of_lt (by omega)
  have h3 : (w * 256 + c) % 2 ^ 64 = w * 256 + c := Nat.mod_eq_of_lt hw
  have e256 : (2 : Nat) ^ 8 = 256 := by decide +kernel
  have h4 : (w * 256) % 2 ^ 64 = w * 256 := Nat.mod_eq_of_lt (Nat.lt_of_le_of_lt (Nat.le_add_right _ _) hw)
  have h5 := Nat.two_pow_add_eq_or_of_lt (i := 8) (b := c) hc w
  rw [e256] at h5
  rw [h1, h2, h3, Nat.shiftLeft_eq, e256, h4, Nat.mul_comm w, h5]
section scan
variable {Θ : Th} {d : Nat} {σ : Mem} {Q : Po}
theorem c105 {v : Nat} (hv : v < 256) (k : Q (some (.int (if isL v then 1 else 0))) σ) : Cm Θ d 105 [.int (iI (sgb v))] σ Q := by
  obtain ⟨a1, -, -⟩ := sgb_cmp hv (show 97 < 128 by decide)
  obtain ⟨-, a2, -⟩ := sgb_cmp hv (show 122 < 128 by decide)
  refine K105 (B105_0 ?_)
  show (iI (sgb v) < iI ((97 : Nat) : Int) → _) ∧ (¬ iI (sgb v) < iI ((97 : Nat) : Int) → (iI ((122 : Nat) : Int) < iI (sgb v) → _) ∧ (¬ iI ((122 : Nat) : Int) < iI (sgb v) → _))
  rw [a1, a2]
  by_cases h : isL v = true
  · rw [if_pos h] at k
    unfold isL at h; rw [Bool.and_eq_true, decide_eq_true_eq, decide_eq_true_eq] at h
    rw [sgb_lo (by omega)]
    exact ⟨fun h => by omega, fun _ => ⟨fun h => by omega, fun _ => k⟩⟩
  · rw [if_neg h] at k
    unfold isL at h; rw [Bool.and_eq_true, decide_eq_true_eq, decide_eq_true_eq] at h
    refine ⟨fun _ => k, fun _ => ⟨fun _ => k, fun _ => ?_⟩⟩
    exfalso; unfold sgb at *; split at * <;> omega
theorem c106 {v : Nat} (hv : v < 256) (k : Q (some (.int (if isD v then 1 else 0))) σ) : Cm Θ d 106 [.int (iI (sgb v))] σ Q := by
  obtain ⟨a1, -, -⟩ := sgb_cmp hv (show 48 < 128 by decide)
  obtain ⟨-, a2, -⟩ := sgb_cmp hv (show 57 < 128 by decide)
  refine K106 (B106_0 ?_)
  show (iI (sgb v) < iI ((48 : Nat) : Int) → _) ∧ (¬ iI (sgb v) < iI ((48 : Nat) : Int) → (iI ((57 : Nat) : Int) < iI (sgb v) → _) ∧ (¬ iI ((57 : Nat) : Int) < iI (sgb v) → _))
  rw [a1, a2]
  by_cases h : isD v = true
  · rw [if_pos h] at k
    unfold isD at h; rw [Bool.and_eq_true, decide_eq_true_eq, decide_eq_true_eq] at h
    rw [sgb_lo (by omega)]
    exact ⟨fun h => by omega, fun _ => ⟨fun h => by omega, fun _ => k⟩⟩
  · rw [if_neg h] at k
    unfold isD at h; rw [Bool.and_eq_true, decide_eq_true_eq, decide_eq_true_eq] at h
    refine ⟨fun _ => k, fun _ => ⟨fun _ => k, fun _ => ?_⟩⟩
    exfalso; unfold sgb at *; split at * <;> omega
/-- the sign's place in the signs of laws -/
theorem c295 {v : Nat} (hv : v < 256) (k1 : isG v = true → ∀ x : Int32, ¬ x < 0 → Q (some (.int x)) σ) (k2 : isG v = false → Q (some (.int (-1))) σ) : Cm Θ (d + 3) 295 [.ref 1002, .int (nI v)] σ Q := by
  refine K295 (B295_0 ?_)
  refine K296 (B296_0 ?_)
  refine ci (fun _ kk => K297 (B297_0 kk)) ⟨fun h => absurd h (by decide), fun _ => ?_⟩
  refine K298 (B298_0 ?_)
  refine ci (fun _ kk => K299 (B299_0 kk)) ?_
  refine ⟨_, rfl, ?_⟩
  have e8 : ((8 : Int32) >>> ((0 : Int32) &&& 31)) = 8 := by decide +kernel
  rw [e8]
  refine K300 (B300_0 ?_)
  have l1 : ¬ nI v < 0 := nI_pos (by omega)
  have l2 : ¬ (255 : Int32) < nI v := nI_nlt (a := 255) (by omega) (by omega)
  refine ci (fun _ kk => K301 (B301_0 ⟨fun h => absurd h l1, fun _ => ⟨fun h => absurd h l2, fun _ => kk⟩⟩)) ⟨fun _ => ⟨fun _ => ?_, fun h => absurd (by decide) h⟩, fun h => absurd h (by decide)⟩
  refine K302 (B302_0 ?_)
  have hE : (if (8 : Int32) < 8 then (8 : Int32) else 8) = nI 8 := by decide +kernel
  have hB : (if (0 : Int32) < 0 then (0 : Int32) else 0) = nI 0 := by decide +kernel
  rw [hE, hB]
  have start := loopN (P := fun i => (∀ j, j < i → strV j ≠ (nI v).toInt8.toInt32) → G Θ d 302 7 [some (.ref 1003), none, none, some (.int (nI 8)), some (.int (nI v).toInt8.toInt32), some (.int (nI i))] [] σ (fun r σ' => ∃ x, r = some (.int x) ∧ (fun v5 σ5 => ∃ x, (some (Value.int v5)) = some (.int x) ∧ (fun v5 σ5 => ∃ x, (some (Value.int v5)) = some (.int x) ∧ Q (some (.int x)) σ5) x σ5) x σ')) 8 ?_ ?_
  · have := start fun j hj => by omega
    refine cast ?_ this
    rfl
  · intro h
    refine B302_7 ⟨fun _ => ?_, fun h => absurd (nI_le (Nat.le_refl _) (by omega)) h⟩
    exact ⟨_, rfl, _, rfl, _, rfl, k2 ((sg_v hv).1 h)⟩
  · intro i hi ih h
    refine B302_7 ⟨fun h => absurd h (nI_ge hi (by omega)), fun _ => ⟨vp_in_nI hi (by decide), fun hne => ?_, fun he => ?_⟩⟩
    · rw [nI_clamp (by omega)] at hne
      rw [nI_1]
      exact ih fun j hj => by
        by_cases z : j = i
        · rw [z]; exact hne
        · exact h j (by omega)
    · rw [nI_clamp (by omega)] at he
      exact ⟨_, rfl, _, rfl, _, rfl, k1 ((sg_v hv).2 i hi he) _ (nI_pos (by omega))⟩
def nt (σ : Mem) (t : Nat) (kd pl : Int32) (v : Int64) : Mem := sI (sL (sI (sI σ 3 t kd) 4 t pl) 5 t v) 1 10 (nI (t + 1))
theorem c103 {t : Nat} {kd pl : Int32} {v : Int64} (ht : σ.1 1 10 = nI t) (hl : t ≤ 1300) (k : Q none (nt σ t kd pl v)) : Cm Θ d 103 [.ref 1, .int kd, .int pl, .long v] σ Q := by
  have vm : vp_in (nI t) 1301 := vp_in_nI (by omega) (by decide)
  have e1 : (sI σ 3 t kd).1 1 10 = nI t := by rw [sI_of _ _ (by omega), ht]
  have e2 : (sI (sI σ 3 t kd) 4 t pl).1 1 10 = nI t := by rw [sI_of _ _ (by omega), e1]
  have e3 : (sL (sI (sI σ 3 t kd) 4 t pl) 5 t v).1 1 10 = nI t := by rw [sL_I, e2]
  refine K103 (B103_0 ?_)
  rw [ht, nI_clamp (by omega), e1, nI_clamp (by omega), e2, nI_clamp (by omega), e3, nI_1]
  exact ⟨fun h => absurd h (nI_nlt (a := 1300) (by omega) (by omega)), fun _ => ⟨vm, vm, vm, k⟩⟩
end scan
