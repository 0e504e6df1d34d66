/-! CONTRACTS: the reference's tokens -/
def hrB (b : Nat → Nat) (n i : Nat) : Int := if i < n then (b i : Int) else -1
def FrK (σ σ' : Mem) : Prop := Fr [124] σ σ' ∧ (∀ y, y ≠ 4 → y ≠ 6 → y ≠ 7 → y ≠ 8 → σ'.1 124 y = σ.1 124 y) ∧ (∀ y, y ≠ 9 → σ'.2.1 124 y = σ.2.1 124 y) ∧ σ'.2.2 124 = σ.2.2 124
theorem frK_rfl {σ : Mem} : FrK σ σ := ⟨Fr.rfl, fun _ _ _ _ _ => rfl, fun _ _ => rfl, rfl⟩
theorem frK_tr {σ σ' σ'' : Mem} (h : FrK σ σ') (h' : FrK σ' σ'') : FrK σ σ'' :=
  ⟨h.1.tr h'.1, fun y a c e f => (h'.2.1 y a c e f).trans (h.2.1 y a c e f), fun y a => (h'.2.2.1 y a).trans (h.2.2.1 y a), h'.2.2.2.trans h.2.2.2⟩
theorem frK_I {σ σ' : Mem} {y : Nat} {v : Int32} (h : FrK σ σ') (hy : y = 4 ∨ y = 6 ∨ y = 7 ∨ y = 8) : FrK σ (sI σ' 124 y v) :=
  ⟨h.1.I (by simp), fun z a c e f => by rw [sI_of _ _ (by omega)]; exact h.2.1 z a c e f, h.2.2.1, h.2.2.2⟩
theorem frK_L {σ σ' : Mem} {v : Int64} (h : FrK σ σ') : FrK σ (sL σ' 124 9 v) :=
  ⟨h.1.L (by simp), h.2.1, fun z a => by rw [sL_of _ _ (by omega)]; exact h.2.2.1 z a, h.2.2.2⟩
/-- the reference's text -/
def TpR (b : Nat → Nat) (n : Nat) (law : Bool) (σ : Mem) : Prop := σ.1 124 5 = nI n ∧ (∀ i, i < n → σ.1 125 i = nI (b i)) ∧ σ.1 124 10 = (if law then 1 else 0)
theorem TpR_fr {b : Nat → Nat} {n : Nat} {law : Bool} {σ σ' : Mem} (h : TpR b n law σ) (hf : FrK σ σ') : TpR b n law σ' :=
  ⟨by rw [hf.2.1 5 (by decide) (by decide) (by decide) (by decide)]; exact h.1, fun i hi => by rw [(hf.1 125 (by decide)).1]; exact h.2.1 i hi, by rw [hf.2.1 10 (by decide) (by decide) (by decide) (by decide)]; exact h.2.2⟩
def srt (t : Tk) : Nat := if t.1 = 4 then 3 else if t.1 = 3 then t.2.2 else t.1
def StR (t : Tk × Nat) (σ : Mem) : Prop := σ.1 124 6 = nI (srt t.1) ∧ σ.1 124 7 = nI t.1.2.1 ∧ (t.1.1 = 1 → σ.2.1 124 9 = jJ ((t.1.2.2 : Nat) : Int)) ∧ (t.1.1 = 2 → σ.1 124 8 = nI t.1.2.2) ∧ (t.1.1 ≠ 4 → σ.1 124 4 = nI t.2)
section rtk
variable {Θ : Th} {d : Nat} {σ : Mem} {Q : Po} {b : Nat → Nat} {n : Nat} {law : Bool}
theorem hrB_b (hb : ∀ i, b i < 256) (i : Nat) : -1 ≤ hrB b n i ∧ hrB b n i < 256 := by
  have := hb i; unfold hrB; split <;> omega
theorem c171 {a k : Nat} (hn : n ≤ 1300) (hT : TpR b n law σ) (ha : σ.1 124 4 = nI a) (h1 : a ≤ 1300) (h2 : k ≤ 1300) (K : Q (some (.int (iI (hrB b n (a + k))))) σ) : Cm Θ d 171 [.ref 124, .int (nI k)] σ Q := by
  refine K171 (B171_0 ?_)
  rw [hT.1, ha, nI_add, nI_leI (by omega) (by omega)]
  refine ⟨fun h => ?_, fun h => ⟨vp_in_nI (by omega) (by decide), ?_⟩⟩
  · unfold hrB at K; rw [if_neg (by omega)] at K; exact K
  · rw [nI_clamp (by omega), hT.2.1 _ (by omega), iI_nI]
    unfold hrB at K; rw [if_pos (by omega)] at K; exact K
theorem c172 {i : Nat} (hb : ∀ i, b i < 256) (K : Q (some (.int (if inL b n i then 1 else 0))) σ) : Cm Θ d 172 [.int (iI (hrB b n i))] σ Q := by
  have hz := hrB_b (n := n) hb i
  have l1 : iI (hrB b n i) < 97 ↔ hrB b n i < 97 := iI_lt (b := 97) (by omega) (by omega) (by omega) (by omega)
  have l2 : (122 : Int32) < iI (hrB b n i) ↔ 122 < hrB b n i := iI_lt (a := 122) (by omega) (by omega) (by omega) (by omega)
  refine K172 (B172_0 ?_)
  rw [l1, l2]
  have e : inL b n i = true ↔ 97 ≤ hrB b n i ∧ hrB b n i ≤ 122 := by
    unfold inL isL hrB
    rw [Bool.and_eq_true, Bool.and_eq_true, decide_eq_true_eq, decide_eq_true_eq, decide_eq_true_eq]
    split <;> omega
  by_cases q : inL b n i = true
  · rw [if_pos q] at K
    have := e.mp q
    exact ⟨fun h => by omega, fun _ => ⟨fun h => by omega, fun _ => K⟩⟩
  · rw [if_neg q] at K
    refine ⟨fun _ => K, fun h => ⟨fun _ => K, fun h' => absurd (e.mpr ⟨by omega, by omega⟩) q⟩⟩
theorem c173 {i : Nat} (hb : ∀ i, b i < 256) (K : Q (some (.int (if inD b n i then 1 else 0))) σ) : Cm Θ d 173 [.int (iI (hrB b n i))] σ Q := by
  have hz := hrB_b (n := n) hb i
  have l1 : iI (hrB b n i) < 48 ↔ hrB b n i < 48 := iI_lt (b := 48) (by omega) (by omega) (by omega) (by omega)
  have l2 : (57 : Int32) < iI (hrB b n i) ↔ 57 < hrB b n i := iI_lt (a := 57) (by omega) (by omega) (by omega) (by omega)
  refine K173 (B173_0 ?_)
  rw [l1, l2]
  have e : inD b n i = true ↔ 48 ≤ hrB b n i ∧ hrB b n i ≤ 57 := by
    unfold inD isD hrB
    rw [Bool.and_eq_true, Bool.and_eq_true, decide_eq_true_eq, decide_eq_true_eq, decide_eq_true_eq]
    split <;> omega
  by_cases q : inD b n i = true
  · rw [if_pos q] at K
    have := e.mp q
    exact ⟨fun h => by omega, fun _ => ⟨fun h => by omega, fun _ => K⟩⟩
  · rw [if_neg q] at K
    refine ⟨fun _ => K, fun h => ⟨fun _ => K, fun h' => absurd (e.mpr ⟨by omega, by omega⟩) q⟩⟩
theorem c174 {v : Nat} (hv : v < 256) (K : Q (some (.int (if isG v then 1 else 0))) σ) : Cm Θ d 174 [.int (nI v)] σ Q := by
  have l : ∀ c : Nat, c < 256 → (nI v = nI c ↔ v = c) := fun c hc => nI_eq (by omega) (by omega)
  refine K174 (B174_0 ?_)
  show (nI v = nI 40 → _) ∧ (¬ nI v = nI 40 → (nI v = nI 41 → _) ∧ (¬ nI v = nI 41 → (nI v = nI 60 → _) ∧ (¬ nI v = nI 60 → (nI v = nI 62 → _) ∧ (¬ nI v = nI 62 → (nI v = nI 61 → _) ∧ (¬ nI v = nI 61 → (nI v = nI 43 → _) ∧ (¬ nI v = nI 43 → (nI v = nI 45 → _) ∧ (¬ nI v = nI 45 → (¬ nI v = nI 42 → _) ∧ (nI v = nI 42 → _))))))))
  rw [l 40 (by omega), l 41 (by omega), l 60 (by omega), l 62 (by omega), l 61 (by omega), l 43 (by omega), l 45 (by omega), l 42 (by omega)]
  have yes : isG v = true → Q (some (.int 1)) σ := fun h => by rw [if_pos h] at K; exact K
  refine ⟨fun h => yes (by rw [h]; rfl), fun h1 => ⟨fun h => yes (by rw [h]; rfl), fun h2 => ⟨fun h => yes (by rw [h]; rfl), fun h3 => ⟨fun h => yes (by rw [h]; rfl), fun h4 => ⟨fun h => yes (by rw [h]; rfl), fun h5 => ⟨fun h => yes (by rw [h]; rfl), fun h6 => ⟨fun h => yes (by rw [h]; rfl), fun h7 => ⟨fun h8 => ?_, fun h => yes (by rw [h]; rfl)⟩⟩⟩⟩⟩⟩⟩⟩
  rw [if_neg] at K
  · exact K
  · unfold isG; simp [h1, h2, h3, h4, h5, h6, h7, h8]
end rtk
