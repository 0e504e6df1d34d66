/-! CONTRACTS: the class's Book -/
section book
variable {Θ : Th} {d : Nat} {σ : Mem} {o : Nat}
theorem c11 {x1 : Int32} (ho : (shq o).1 = 1) : Ci Θ d 11 [.ref o, .int x1] σ (fun v σ' => σ' = σ ∧ v = b01 (decide (¬ x1 < 0 ∧ ¬ σ.1 o 0 ≤ x1))) :=
  K11 (B11_0 ho ⟨fun h => ⟨0, rfl, rfl, by simp [h, b01]⟩, fun h => ⟨fun h2 => ⟨0, rfl, rfl, by simp [h2, b01]⟩, fun h2 => ⟨1, rfl, rfl, by simp [h, h2, b01]⟩⟩⟩)
theorem c12 {x1 : Int32} (ho : (shq o).1 = 1) : Ci Θ d 12 [.ref o, .int x1] σ (fun v σ' => σ' = σ ∧ v = b01 (decide (¬ x1 < 0 ∧ ¬ σ.1 o 4 ≤ x1))) :=
  K12 (B12_0 ho ⟨fun h => ⟨0, rfl, rfl, by simp [h, b01]⟩, fun h => ⟨fun h2 => ⟨0, rfl, rfl, by simp [h2, b01]⟩, fun h2 => ⟨1, rfl, rfl, by simp [h, h2, b01]⟩⟩⟩)
theorem c14 {k : Nat} (ho : (shq o).1 = 1) (hk : k < 32) : Ci Θ d 14 [.ref o, .int (nI k)] σ (fun v σ' => σ' = σ ∧ v = b01 (bt (σ.1 o 3) k)) :=
  K14 (B14_0 ho ⟨fun h => ⟨0, rfl, rfl, by rw [bt_shr _ hk] at h; rw [b01_0.mp h]; rfl⟩, fun h => ⟨1, rfl, rfl, by rw [bt_shr _ hk] at h; rw [b01_n.mp h]; rfl⟩⟩)
theorem ix6 {c m : Nat} : nI c * 6 + nI m = nI (6 * c + m) := by
  rw [show (6 : Int32) = nI 6 from rfl, pk_mul, nI_add, Nat.mul_comm c 6]
theorem c15 {c m : Nat} (ho : (shq o).1 = 1) (hc : c ≤ 16) (hm : m < 6) : Ci Θ d 15 [.ref o, .int (nI c), .int (nI m)] σ (fun v σ' => σ' = σ ∧ v = σ.1 (o + 7) (6 * c + m)) :=
  K15 (B15_0 ho ⟨by rw [ix6]; exact vp_in_nI (by omega) (by decide), ⟨_, rfl, rfl, by rw [ix6, nI_clamp (by omega)]⟩⟩)
theorem c16 {c m : Nat} {x : Int32} (ho : (shq o).1 = 1) (hc : c ≤ 16) (hm : m < 6) : Cv Θ d 16 [.ref o, .int (nI c), .int (nI m), .int x] σ (fun σ' => σ' = sI σ (o + 7) (6 * c + m) x) :=
  K16 (B16_0 ho ⟨by rw [ix6]; exact vp_in_nI (by omega) (by decide), ⟨rfl, by rw [ix6, nI_clamp (by omega)]⟩⟩)
theorem c18 {a b mk : Nat} {p : Nat → Bool} {s t : Nat → Nat} (ho : (shq o).1 = 1) (hm : σ.1 o 0 = nI mk) (hk : mk ≤ 6) (ha : a ≤ 16) (hb : b ≤ 16) (hs : ∀ m, m < mk → σ.1 (o + 7) (6 * a + m) = nI (s m) ∧ s m < 100) (ht : ∀ m, m < mk → σ.1 (o + 7) (6 * b + m) = nI (t m) ∧ t m < 100) :
    Ci Θ (d + 1) 18 [.ref o, .int (nI a), .int (nI b), .int (sX p)] σ (fun v σ' => σ' = σ ∧ v = b01 (nl mk p s t)) := by
  refine K18 (B18_0 ho ?_)
  refine loopS (α := Unit) (I := fun i _ => ∀ m, m < i → p m = true → t m ≤ s m) (P := fun i _ => G Θ (d + 1) 18 3 [some (.ref o), some (.int (nI a)), some (.int (nI b)), some (.int (sX p)), some (.int (nI i))] [] σ (Pi fun v σ' => σ' = σ ∧ v = b01 (nl mk p s t))) mk ?_ ?_ () (fun m hm => by omega)
  · intro _ hI
    refine B18_3 ho ⟨fun _ => ⟨1, rfl, rfl, by rw [nl_iff.mpr hI]; rfl⟩, fun h => absurd ?_ h⟩
    rw [hm]; exact nI_le (Nat.le_refl _) (by omega)
  · intro i _ hi hI ih
    refine B18_3 ho ⟨fun h => absurd h (by rw [hm]; exact nI_ge hi (by omega)), fun _ => ⟨fun h => ?_, fun h => ?_⟩⟩
    · rw [sX_shr _ (by omega), b01_0] at h
      rw [nI_1]
      refine ih () fun m hm hp => ?_
      rcases Nat.lt_or_ge m i with q | q
      · exact hI m q hp
      · have : m = i := by omega
        subst this; rw [h] at hp; cases hp
    · rw [sX_shr _ (by omega), b01_n] at h
      refine ro (c15 ho ha (by omega)) (ro (c15 ho hb (by omega)) ?_)
      rw [(hs i hi).1, (ht i hi).1, nI_leI (by have := (ht i hi).2; omega) (by have := (hs i hi).2; omega)]
      refine ⟨fun q => ?_, fun q => ⟨0, rfl, rfl, ?_⟩⟩
      · rw [nI_1]
        refine ih () fun m hm hp => ?_
        rcases Nat.lt_or_ge m i with e | e
        · exact hI m e hp
        · have : m = i := by omega
          subst this; exact q
      · have : nl mk p s t = false := by
          cases e : nl mk p s t
          · rfl
          · exact absurd (nl_iff.mp e i hi h) q
        rw [this]; rfl
theorem c292 {r n : Nat} {x : Int32} (hr : shq r = (20, n)) (hn : n < 2 ^ 31) : Cv Θ d 292 [.ref r, .int x] σ (fun σ' => Fr [r] σ σ' ∧ ∀ k, k < n → σ'.1 r k = x) := by
  refine K292 (n0 := n) (B292_0 hr ?_)
  refine loopS (α := Mem) (I := fun i s => Fr [r] σ s ∧ ∀ k, k < i → s.1 r k = x) (P := fun i s => G Θ d 292 5 [some (.ref r), some (.int x), some (.int (nI i)), some (.int (nI n))] [] s (Pv fun σ' => Fr [r] σ σ' ∧ ∀ k, k < n → σ'.1 r k = x)) n ?_ ?_ σ ⟨Fr.rfl, fun k hk => by omega⟩
  · intro s hI
    exact B292_5 hr ⟨fun _ => ⟨rfl, hI⟩, fun h => absurd (nI_le (Nat.le_refl n) hn) h⟩
  · intro i s hi hI ih
    refine B292_5 hr ⟨fun h => absurd h (nI_ge hi hn), fun _ => ⟨vp_in_nI hi hn, ?_⟩⟩
    rw [nI_clamp (by omega), nI_1]
    refine ih _ ⟨hI.1.I (by simp), fun k hk => ?_⟩
    rcases Nat.lt_or_ge k i with q | q
    · rw [sI_of _ _ (by omega)]; exact hI.2 k q
    · have : k = i := by omega
      subst this; exact sI_at _ _ _ _
theorem c17 {n : Nat} (ho : (shq o).1 = 1) (hn : σ.1 o 4 = nI n) (h : n ≤ 16) : Ci Θ d 17 [.ref o] σ (fun v σ' => σ' = σ ∧ v = sX (fun c => decide (c < n))) :=
  K17 (B17_0 ho ⟨_, rfl, rfl, by
    rw [hn]
    have : ∀ n, n ≤ 16 → ((1 : Int32) <<< (nI n &&& 31)) - 1 = sX (fun c => decide (c < n)) := by decide +kernel
    exact this n h⟩)
end book
