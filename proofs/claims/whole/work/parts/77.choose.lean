/-! CONTRACTS: a round of payments; the choice -/
theorem lev_of {n : Nat} {T : Nat → Bool} {a : Nat → Int} {ov : Nat → Nat → Bool} {lf : Nat → Int} {pd : Nat → Nat → Int} {rk : Nat → Nat} {Rs : Nat → Bool} {cf : Nat → Int32} (hn : n = 16) (h : ∀ x, x < 16 → Rs x = true → Bf2 T a ov lf pd rk Rs cf x) : ∀ k x, x < 16 → Rs x = true → rk x ≤ k → lev n ov (isP T a) (isW T a) lf pd (rk x) x = true := by
  subst hn
  intro k
  induction k with
  | zero =>
    intro x hx hR hk
    rcases h x hx hR with ⟨h1, -, h3, h4⟩ | ⟨-, o, -, -, -, -, -, h4⟩ | ⟨-, p, -, -, -, -, -, h4⟩
    · rw [h4]; exact lev_0.mpr ⟨h1, h3⟩
    · omega
    · omega
  | succ k ih =>
    intro x hx hR hk
    rcases h x hx hR with ⟨h1, -, h3, h4⟩ | ⟨h1, o, ho, -, h3, h4, h5, h6⟩ | ⟨h1, p, hp, -, h3, h4, h5, h6⟩
    · rw [h4]; exact lev_0.mpr ⟨h1, h3⟩
    · rw [h6]; exact lev_s.mpr (Or.inr (Or.inr ⟨h1, o, ho, h3, ih o ho h4 (by omega), h5⟩))
    · rw [h6]; exact lev_s.mpr (Or.inr (Or.inl ⟨h1, p, hp, h3, ih p hp h4 (by omega), h5⟩))
/-- back from one to the one it came from -/
def pnW (cf : Nat → Int32) (o : Nat) : Nat → Nat
  | 0 => o
  | i + 1 => (cf (pnW cf o i)).toNatClampNeg
def mjW (lf0 : Int) (pd : Nat → Nat → Int) (pn : Nat → Nat) : Nat → Int
  | 0 => lf0
  | j + 1 => min (mjW lf0 pd pn j) (pd (pn (2 * j + 1)) (pn (2 * j + 2)))
section choose
variable {Θ : Th} {d : Nat} {σ : Mem} {Q : Po} {l : Nat} {T : Nat → Bool} {a : Nat → Int} {ov : Nat → Nat → Bool} {lf : Nat → Int} {pd : Nat → Nat → Int}
theorem way_of {rk : Nat → Nat} {Rs : Nat → Bool} {cf : Nat → Int32} {o0 : Nat} (hPay : Pay 16 ov T a lf pd) (ho : o0 < 16) (hW : isW T a o0 = true) (hR : Rs o0 = true) (hB : ∀ x, x < 16 → Rs x = true → Bf2 T a ov lf pd rk Rs cf x) :
    ∃ e, rk o0 = 2 * e + 1 ∧ e ≤ 7 ∧ Way 16 ov T a pd e (pnW cf o0) ∧ (∀ i, i ≤ 2 * e + 1 → rk (pnW cf o0 i) = 2 * e + 1 - i ∧ Rs (pnW cf o0 i) = true) ∧ (∀ i, i < 2 * e + 1 → cf (pnW cf o0 i) = nI (pnW cf o0 (i + 1))) ∧ cf (pnW cf o0 (2 * e + 1)) = -1 ∧ 0 < lf (pnW cf o0 (2 * e + 1)) := by
  have A : ∀ i, i ≤ rk o0 → pnW cf o0 i < 16 ∧ Rs (pnW cf o0 i) = true ∧ rk (pnW cf o0 i) = rk o0 - i ∧ (i % 2 = 0 → isW T a (pnW cf o0 i) = true) ∧ (i % 2 = 1 → isP T a (pnW cf o0 i) = true) := by
    intro i
    induction i with
    | zero => intro _; exact ⟨ho, hR, rfl, fun _ => hW, fun h => by omega⟩
    | succ i ih =>
      intro hi
      obtain ⟨h1, h2, h3, h4, h5⟩ := ih (by omega)
      rcases hB _ h1 h2 with ⟨g1, -, -, g4⟩ | ⟨g1, o, go, g2, g3, g4, g5, g6⟩ | ⟨g1, p, gp', g2, g3, g4, g5, g6⟩
      · omega
      · have e : pnW cf o0 (i + 1) = o := by show (cf (pnW cf o0 i)).toNatClampNeg = o; rw [g2, nI_clamp (by omega)]
        rw [e]
        refine ⟨go, g4, by omega, fun _ => g3, fun h => ?_⟩
        have := h4 (by omega); rw [isPW g1] at this; cases this
      · have e : pnW cf o0 (i + 1) = p := by show (cf (pnW cf o0 i)).toNatClampNeg = p; rw [g2, nI_clamp (by omega)]
        rw [e]
        refine ⟨gp', g4, by omega, fun h => ?_, fun _ => g3⟩
        have := h5 (by omega); rw [isPW this] at g1; cases g1
  have L : ∀ i, i < rk o0 → cf (pnW cf o0 i) = nI (pnW cf o0 (i + 1)) ∧ (i % 2 = 0 → ov (pnW cf o0 i) (pnW cf o0 (i + 1)) = true) ∧ (i % 2 = 1 → pd (pnW cf o0 i) (pnW cf o0 (i + 1)) ≠ 0) := by
    intro i hi
    obtain ⟨h1, h2, h3, h4, h5⟩ := A i (by omega)
    rcases hB _ h1 h2 with ⟨g1, -, -, g4⟩ | ⟨g1, o, go, g2, g3, g4, g5, g6⟩ | ⟨g1, p, gp', g2, g3, g4, g5, g6⟩
    · omega
    · have e : pnW cf o0 (i + 1) = o := by show (cf (pnW cf o0 i)).toNatClampNeg = o; rw [g2, nI_clamp (by omega)]
      rw [e]
      refine ⟨g2, fun h => ?_, fun _ => g5⟩
      have := h4 h; rw [isPW g1] at this; cases this
    · have e : pnW cf o0 (i + 1) = p := by show (cf (pnW cf o0 i)).toNatClampNeg = p; rw [g2, nI_clamp (by omega)]
      rw [e]
      refine ⟨g2, fun _ => g5, fun h => ?_⟩
      have := h5 h; rw [isPW this] at g1; cases g1
  have E : isP T a (pnW cf o0 (rk o0)) = true ∧ cf (pnW cf o0 (rk o0)) = -1 ∧ 0 < lf (pnW cf o0 (rk o0)) := by
    obtain ⟨h1, h2, h3, h4, h5⟩ := A (rk o0) (Nat.le_refl _)
    rcases hB _ h1 h2 with ⟨g1, g2, g3, g4⟩ | ⟨g1, o, go, g2, g3, g4, g5, g6⟩ | ⟨g1, p, gp', g2, g3, g4, g5, g6⟩
    · exact ⟨g1, g2, g3⟩
    · omega
    · omega
  have hodd : rk o0 % 2 = 1 := by
    rcases Nat.mod_two_eq_zero_or_one (rk o0) with z | z
    · have := (A (rk o0) (Nat.le_refl _)).2.2.2.1 z
      rw [isPW E.1] at this; cases this
    · exact z
  have inj : ∀ i j, i < j → j ≤ rk o0 → pnW cf o0 i ≠ pnW cf o0 j := fun i j hij hj e => by
    have h1 := (A i (by omega)).2.2.1
    have h2 := (A j hj).2.2.1
    rw [e] at h1; omega
  have h16 := holes (m := 16) (n := rk o0 + 1) (f := pnW cf o0) (fun i hi => (A i (by omega)).1) (fun i j hij hj => inj i j hij (by omega))
  obtain ⟨e, he⟩ : ∃ e, rk o0 = 2 * e + 1 := ⟨rk o0 / 2, by omega⟩
  rw [he] at A L E inj
  refine ⟨e, he, by omega, ⟨fun i hi => (A i hi).1, inj, fun i hi => ⟨(A (2 * i) (by omega)).2.2.2.1 (by omega), (A (2 * i + 1) (by omega)).2.2.2.2 (by omega), (L (2 * i) (by omega)).2.1 (by omega)⟩, fun i hi => ?_⟩, fun i hi => ⟨(A i hi).2.2.1, (A i hi).2.1⟩, fun i hi => (L i hi).1, E.2.1, E.2.2⟩
  have h1 := (L (2 * i + 1) (by omega)).2.2 (by omega)
  have h2 := (hPay.2.2 _ _ (A (2 * i + 1) (by omega)).1 (A (2 * i + 2) (by omega)).1).1
  have h1 : pd (pnW cf o0 (2 * i + 1)) (pnW cf o0 (2 * i + 2)) ≠ 0 := h1
  omega
theorem iI_min {x y : Int} (hx : 0 ≤ x) (hx' : x ≤ 1048576) (hy : 0 ≤ y) (hy' : y ≤ 1048576) : (if iI y < iI x then iI y else iI x) = iI (min x y) := by
  have hc : iI y < iI x ↔ y < x := iI_lt (by omega) (by omega) (by omega) (by omega)
  by_cases q : y < x
  · rw [if_pos (hc.mpr q)]; congr 1; omega
  · rw [if_neg (fun z => q (hc.mp z))]; congr 1; omega
theorem mjW_ok {lf0 : Int} {pn : Nat → Nat} {e : Nat} (h0 : 0 < lf0) (hpd : ∀ i, i < e → 0 < pd (pn (2 * i + 1)) (pn (2 * i + 2))) : ∀ j, j ≤ e → 0 < mjW lf0 pd pn j ∧ mjW lf0 pd pn j ≤ lf0 ∧ (∀ i, i < j → mjW lf0 pd pn j ≤ pd (pn (2 * i + 1)) (pn (2 * i + 2))) ∧ (mjW lf0 pd pn j = lf0 ∨ ∃ i, i < j ∧ mjW lf0 pd pn j = pd (pn (2 * i + 1)) (pn (2 * i + 2)))
  | 0, _ => ⟨h0, Int.le_refl _, fun i hi => absurd hi (Nat.not_lt_zero _), Or.inl rfl⟩
  | j + 1, hj => by
    obtain ⟨h1, h2, h3, h4⟩ := mjW_ok h0 hpd j (by omega)
    have h5 := hpd j (by omega)
    have e : mjW lf0 pd pn (j + 1) = min (mjW lf0 pd pn j) (pd (pn (2 * j + 1)) (pn (2 * j + 2))) := rfl
    rw [e]
    refine ⟨by omega, by omega, fun i hi => ?_, ?_⟩
    · rcases Nat.lt_or_ge i j with z | z
      · have := h3 i z; omega
      · have : i = j := by omega
        subst this; omega
    · by_cases z : mjW lf0 pd pn j ≤ pd (pn (2 * j + 1)) (pn (2 * j + 2))
      · rw [Int.min_eq_left z]
        rcases h4 with h4 | ⟨i, hi, h4⟩
        · exact Or.inl h4
        · exact Or.inr ⟨i, by omega, h4⟩
      · rw [Int.min_eq_right (by omega)]
        exact Or.inr ⟨j, by omega, rfl⟩
theorem c46 {rk : Nat → Nat} {Rs : Nat → Bool} {o0 : Nat} (hM : aM T a) (hC : CuS l T a ov lf pd σ) (hPay : Pay 16 ov T a lf pd) (ho : o0 < 16) (hW : isW T a o0 = true) (hR : Rs o0 = true) (hl0 : 0 < lf o0) (hB : ∀ x, x < 16 → Rs x = true → Bf2 T a ov lf pd rk Rs (σ.1 90) x)
    (hex : ∀ x, x < 16 → Rs x = true → rk x ≤ rk o0 → ∀ k, lev 16 ov (isP T a) (isW T a) lf pd k x = true → rk x ≤ k)
    (k : ∀ σ' lf' pd', Fr [88, 89] σ σ' → CuS l T a ov lf' pd' σ' → Pay 16 ov T a lf' pd' → pot 16 ov (isP T a) (isW T a) lf' pd' < pot 16 ov (isP T a) (isW T a) lf pd → Q none σ') : Cm Θ (d + 1) 46 [.ref 86, .int (nI o0)] σ Q := by
  obtain ⟨e, he, he7, hw, hrk, hcf, hcfe, hlR⟩ := way_of hPay ho hW hR hB
  obtain ⟨pn, hpn⟩ : ∃ pn, pn = pnW (σ.1 90) o0 := ⟨_, rfl⟩
  rw [← hpn] at hw hrk hcf hcfe hlR
  have hp0 : pn 0 = o0 := by rw [hpn]; rfl
  have hbd := pay_bd hM hPay
  have vo := vp_in_nI ho (by decide)
  have hlt := hw.1
  have hv : ∀ i, i ≤ 2 * e + 1 → vp_in (nI (pn i)) 16 := fun i hi => vp_in_nI (hlt i hi) (by decide)
  have hcl : ∀ i, i ≤ 2 * e + 1 → (nI (pn i)).toNatClampNeg = pn i := fun i hi => nI_clamp (by have := hlt i hi; omega)
  have hmj := mjW_ok (pd := pd) (pn := pn) (e := e) hl0 hw.2.2.2
  have hPW : ∀ i, i ≤ 2 * e + 1 → isP T a (pn i) = true ∨ isW T a (pn i) = true := fun i hi => by
    rcases Nat.mod_two_eq_zero_or_one i with z | z
    · have := (hw.2.2.1 (i / 2) (by omega)).1
      rw [show 2 * (i / 2) = i by omega] at this; exact Or.inr this
    · have := (hw.2.2.1 (i / 2) (by omega)).2.1
      rw [show 2 * (i / 2) + 1 = i by omega] at this; exact Or.inl this
  have n1 : ∀ i, i ≤ 2 * e + 1 → ¬ nI (pn i) < 0 := fun i hi => nI_pos (by have := hlt i hi; omega)
  refine K46 (B46_0 ⟨vo, vo, ?_⟩)
  rw [nI_clamp (by omega), hC.2.2.1 o0 ho (Or.inr hW), ← hp0, hcf 0 (by omega)]
  -- the payments that go back
  have second : ∀ m : Int, 0 < m → m ≤ lf (pn 0) → m ≤ lf (pn (2 * e + 1)) → (∀ i, i < e → m ≤ pd (pn (2 * i + 1)) (pn (2 * i + 2))) → (m = lf (pn 0) ∨ m = lf (pn (2 * e + 1)) ∨ ∃ i, i < e ∧ m = pd (pn (2 * i + 1)) (pn (2 * i + 2))) →
      G Θ (d + 1) 46 109 [some (.ref 86), none, some (.int (iI m)), none, some (.int (nI (pn 0))), some (.int 0)] [] (sI (sI σ 88 (pn (2 * e + 1)) (iI (lf (pn (2 * e + 1)) - m))) 88 (pn 0) (iI (lf (pn 0) - m))) Q := by
    intro m hm m1 m2 m3 m4
    have hP2 := way_pay hw hPay (Int.le_of_lt hm) m1 m2 m3
    have hpot := way_pot rfl rfl hw hPay hP2 hm rk (fun i hi => (hrk i hi).1) (fun i hi => lev_of rfl hB _ _ (hlt i hi) (hrk i hi).2 (Nat.le_refl _)) (fun i k' hi hk => hex _ (hlt i hi) (hrk i hi).2 (by have := (hrk i hi).1; omega) k' hk) (by omega) m4 (by rw [hp0]; exact hl0) hlR
    have h0R : pn 0 ≠ pn (2 * e + 1) := hw.2.1 0 (2 * e + 1) (by omega) (Nat.le_refl _)
    have fin : ∀ s, Fr [88, 89] σ s → s.2.2 86 = σ.2.2 86 → s.1 88 = (sI (sI σ 88 (pn (2 * e + 1)) (iI (lf (pn (2 * e + 1)) - m))) 88 (pn 0) (iI (lf (pn 0) - m))).1 88 → (∀ p o, p < 16 → o < 16 → s.1 89 (16 * p + o) = iI (pdj (2 * e + 1) pn m pd (e + 1) p o)) → Q none s := by
      intro s hf hr h88 h89
      refine k s _ _ hf ⟨⟨hC.1.1, by rw [hr]; exact hC.1.2⟩, ⟨?_, ?_⟩, fun c hc hk => ?_, h89, fun c hc hT => ?_⟩ hP2 hpot
      · rw [(hf 86 (by decide)).1]; exact hC.2.1.1
      · rw [(hf 86 (by decide)).1]; exact hC.2.1.2
      · show s.1 88 c = iI (lf c - (if c = pn 0 ∨ c = pn (2 * e + 1) then m else 0))
        rw [h88]
        by_cases z : c = pn 0
        · rw [z, sI_at, if_pos (Or.inl rfl)]
        · rw [sI_of _ _ (by omega)]
          by_cases z2 : c = pn (2 * e + 1)
          · rw [z2, sI_at, if_pos (Or.inr rfl)]
          · rw [sI_of _ _ (by omega), hC.2.2.1 c hc hk, if_neg (by omega), Int.sub_zero]
      · rw [(hf l (by rcases hC.1.1 with rfl | rfl <;> decide)).1]; exact hC.2.2.2.2 c hc hT
    refine loopS (α := Mem) (I := fun j s => Fr [88, 89] σ s ∧ s.2.2 86 = σ.2.2 86 ∧ s.1 88 = (sI (sI σ 88 (pn (2 * e + 1)) (iI (lf (pn (2 * e + 1)) - m))) 88 (pn 0) (iI (lf (pn 0) - m))).1 88 ∧ s.1 90 = σ.1 90 ∧ ∀ p o, p < 16 → o < 16 → s.1 89 (16 * p + o) = iI (pdj (2 * e + 1) pn m pd j p o))
      (P := fun j s => G Θ (d + 1) 46 109 [some (.ref 86), none, some (.int (iI m)), none, some (.int (if j ≤ e then nI (pn (2 * j)) else -1)), some (.int (nI j))] [] s Q) (e + 1) ?_ ?_ _ ⟨(Fr.rfl.I (by simp)).I (by simp), rfl, rfl, rfl, fun p o hp ho' => ?_⟩
    · intro s ⟨hf, hr, h88, h90, h89⟩
      rw [if_neg (by omega)]
      have f := B46_180 (Θ := Θ) (d := d) (fin s hf hr h88 h89)
      exact B46_109 ⟨fun _ => f, fun _ => ⟨fun _ => f, fun h => absurd (by decide) h⟩⟩
    · intro j s hj ⟨hf, hr, h88, h90, h89⟩ ih
      rw [if_pos (by omega)]
      refine B46_109 ⟨fun h => absurd h (nI_ge (b := 16) (by omega) (by decide)), fun _ => ⟨fun h => absurd h (n1 (2 * j) (by omega)), fun _ => ⟨hv (2 * j) (by omega), ?_⟩⟩⟩
      simp only [sI_ne, ne_eq, Nat.reduceEqDiff, not_false_eq_true]
      rw [hcl (2 * j) (by omega), h90, hcf (2 * j) (by omega), hcl (2 * j + 1) (by omega), ix16, nI_clamp (by have := hlt (2 * j) (by omega); have := hlt (2 * j + 1) (by omega); omega)]
      have l1 := hlt (2 * j) (by omega)
      have l2 := hlt (2 * j + 1) (by omega)
      have v2 : vp_in (nI (16 * pn (2 * j + 1) + pn (2 * j))) 256 := vp_in_nI (by omega) (by decide)
      refine ⟨v2, v2, hv (2 * j + 1) (by omega), ?_⟩
      rw [h89 _ _ l2 l1, iI_add]
      have step : ∀ (s' : Mem), Fr [88, 89] σ s' → s'.2.2 86 = σ.2.2 86 → s'.1 88 = s.1 88 → s'.1 90 = σ.1 90 → (∀ p o, p < 16 → o < 16 → s'.1 89 (16 * p + o) = iI (pdj (2 * e + 1) pn m pd (j + 1) p o)) → G Θ (d + 1) 46 174 [some (.ref 86), none, some (.int (iI m)), none, some (.int (if j + 1 ≤ e then nI (pn (2 * (j + 1))) else -1)), some (.int (nI j))] [] s' Q := by
        intro s' f1 f2 f3 f4 f5
        refine B46_174 ?_
        rw [nI_1]
        exact ih s' ⟨f1, f2, f3.trans h88, f4, f5⟩
      have epdj : ∀ p o, pdj (2 * e + 1) pn m pd (j + 1) p o = pdj (2 * e + 1) pn m pd j p o + (if p = pn (2 * j + 1) ∧ o = pn (2 * j) then m else 0) - (if 2 * j + 1 < 2 * e + 1 ∧ p = pn (2 * j + 1) ∧ o = pn (2 * j + 2) then m else 0) := fun _ _ => rfl
      have eadd : ∀ p o, p < 16 → o < 16 → (sI s 89 (16 * pn (2 * j + 1) + pn (2 * j)) (iI (pdj (2 * e + 1) pn m pd j (pn (2 * j + 1)) (pn (2 * j)) + m))).1 89 (16 * p + o) = iI (pdj (2 * e + 1) pn m pd j p o + (if p = pn (2 * j + 1) ∧ o = pn (2 * j) then m else 0)) := by
        intro p o hp ho'
        by_cases z : p = pn (2 * j + 1) ∧ o = pn (2 * j)
        · rw [if_pos z, z.1, z.2, sI_at]
        · rw [if_neg z, sI_of _ _ (by omega), h89 p o hp ho', Int.add_zero]
      rcases Nat.lt_or_ge j e with hje | hje
      · have l3 := hlt (2 * j + 2) (by omega)
        rw [hcf (2 * j + 1) (by omega)]
        have e2 : nI (pn (2 * j + 1 + 1)) = nI (pn (2 * (j + 1))) := rfl
        rw [e2]
        have v3 : vp_in (nI (16 * pn (2 * j + 1) + pn (2 * (j + 1)))) 256 := vp_in_nI (by have : pn (2 * (j + 1)) < 16 := l3; omega) (by decide)
        rw [ix16, nI_clamp (by have : pn (2 * (j + 1)) < 16 := l3; omega), eadd _ (pn (2 * (j + 1))) l2 l3, iI_sub]
        refine ⟨fun h => absurd h (n1 (2 * (j + 1)) (by omega)), fun _ => ⟨v3, v3, ?_⟩⟩
        have st := step (sI (sI s 89 (16 * pn (2 * j + 1) + pn (2 * j)) (iI (pdj (2 * e + 1) pn m pd j (pn (2 * j + 1)) (pn (2 * j)) + m))) 89 (16 * pn (2 * j + 1) + pn (2 * (j + 1))) (iI (pdj (2 * e + 1) pn m pd j (pn (2 * j + 1)) (pn (2 * (j + 1))) + (if pn (2 * j + 1) = pn (2 * j + 1) ∧ pn (2 * (j + 1)) = pn (2 * j) then m else 0) - m))) ((hf.I (by simp)).I (by simp)) hr (by rw [sI_ne (by decide), sI_ne (by decide)]) (by rw [sI_ne (by decide), sI_ne (by decide)]; exact h90) (fun p o hp ho' => by
          rw [epdj]
          by_cases z : p = pn (2 * j + 1) ∧ o = pn (2 * j + 2)
          · rw [if_pos (show 2 * j + 1 < 2 * e + 1 ∧ p = pn (2 * j + 1) ∧ o = pn (2 * j + 2) from ⟨by omega, z⟩), z.1, z.2]
            show (sI _ 89 (16 * pn (2 * j + 1) + pn (2 * j + 2)) _).1 89 (16 * pn (2 * j + 1) + pn (2 * j + 2)) = _
            rw [sI_at]; rfl
          · rw [if_neg (show ¬ (2 * j + 1 < 2 * e + 1 ∧ p = pn (2 * j + 1) ∧ o = pn (2 * j + 2)) from fun q => z q.2), Int.sub_zero]
            rw [sI_of _ _ (show ¬ ((89 : Nat) = 89 ∧ 16 * p + o = 16 * pn (2 * j + 1) + pn (2 * (j + 1))) from fun q => z ⟨by have : pn (2 * (j + 1)) < 16 := l3; omega, by have : pn (2 * (j + 1)) < 16 := l3; show o = pn (2 * (j + 1)); omega⟩)]
            exact eadd p o hp ho')
        rw [if_pos (by omega)] at st
        exact st
      · have hje : j = e := by omega
        subst hje
        rw [hcfe]
        refine ⟨fun _ => ?_, fun h => absurd (by decide) h⟩
        have st := step (sI s 89 (16 * pn (2 * j + 1) + pn (2 * j)) (iI (pdj (2 * j + 1) pn m pd j (pn (2 * j + 1)) (pn (2 * j)) + m))) (hf.I (by simp)) hr (by rw [sI_ne (by decide)]) (by rw [sI_ne (by decide)]; exact h90) (fun p o hp ho' => by
          rw [epdj, if_neg (show ¬ (2 * j + 1 < 2 * j + 1 ∧ p = pn (2 * j + 1) ∧ o = pn (2 * j + 2)) from fun q => Nat.lt_irrefl _ q.1), Int.sub_zero]
          exact eadd p o hp ho')
        rw [if_neg (by omega)] at st
        exact st
    · rw [sI_ne (by decide), sI_ne (by decide)]; exact hC.2.2.2.1 p o hp ho'
  -- how much
  have first : G Θ (d + 1) 46 17 [some (.ref 86), some (.int (nI (pn 0))), some (.int (iI (lf (pn 0)))), some (.int (nI (pn (0 + 1)))), some (.int 0), none] [] σ Q := by
    rw [hp0]
    refine loopS (α := Unit) (I := fun _ _ => True) (P := fun j _ => G Θ (d + 1) 46 17 [some (.ref 86), some (.int (nI o0)), some (.int (iI (mjW (lf o0) pd pn j))), some (.int (nI (pn (2 * j + 1)))), some (.int (nI j)), none] [] σ Q) e ?_ ?_ () trivial
    · intro _ _
      have pe := hw.2.2.1 e (Nat.le_refl _)
      obtain ⟨q1, q2, q3, q4⟩ := hmj e (Nat.le_refl _)
      have bR := hbd.1 (pn (2 * e + 1)) (hlt _ (Nat.le_refl _)) (Or.inl pe.2.1)
      have bo := hbd.1 o0 ho (Or.inr hW)
      have go : G Θ (d + 1) 46 72 [some (.ref 86), some (.int (nI o0)), some (.int (iI (mjW (lf o0) pd pn e))), some (.int (nI (pn (2 * e + 1)))), none, none] [] σ Q := by
        have vR := hv (2 * e + 1) (Nat.le_refl _)
        refine B46_72 ⟨vR, vR, vR, vo, vo, ?_⟩
        rw [hcl _ (Nat.le_refl _), nI_clamp (by omega), hC.2.2.1 _ (hlt _ (Nat.le_refl _)) (Or.inl pe.2.1), iI_min (by omega) (by omega) (by omega) (by omega), iI_sub]
        have h0R : pn 0 ≠ pn (2 * e + 1) := hw.2.1 0 (2 * e + 1) (by omega) (Nat.le_refl _)
        rw [hp0] at h0R
        rw [sI_of _ _ (by omega), hC.2.2.1 o0 ho (Or.inr hW), iI_sub]
        have := second (min (mjW (lf o0) pd pn e) (lf (pn (2 * e + 1)))) (by omega) (by rw [hp0]; omega) (by omega) (fun i hi => by have := q3 i hi; omega) (by
          rw [hp0]
          by_cases z : mjW (lf o0) pd pn e ≤ lf (pn (2 * e + 1))
          · rw [Int.min_eq_left z]
            rcases q4 with q4 | ⟨i, hi, q4⟩
            · exact Or.inl q4
            · exact Or.inr (Or.inr ⟨i, hi, q4⟩)
          · rw [Int.min_eq_right (by omega)]; exact Or.inr (Or.inl rfl))
        rw [hp0] at this
        exact this
      refine B46_17 ⟨fun _ => go, fun _ => ⟨hv _ (Nat.le_refl _), ?_⟩⟩
      rw [hcl _ (Nat.le_refl _), hcfe]
      exact ⟨fun _ => go, fun h => absurd (by decide) h⟩
    · intro j _ hj _ ih
      obtain ⟨q1, q2, q3, q4⟩ := hmj j (by omega)
      have l1 := hlt (2 * j + 1) (by omega)
      have l2 := hlt (2 * j + 2) (by omega)
      have bo := hbd.1 o0 ho (Or.inr hW)
      have bp := hbd.2 (pn (2 * j + 1)) (pn (2 * j + 2)) l1 l2
      refine B46_17 ⟨fun h => absurd h (nI_ge (b := 16) (by omega) (by decide)), fun _ => ⟨hv _ (by omega), ?_⟩⟩
      rw [hcl _ (by omega), hcf (2 * j + 1) (by omega), hcl _ (by omega), hcf (2 * j + 1 + 1) (by omega), ix16]
      refine ⟨fun h => absurd h (n1 _ (by omega)), fun _ => ⟨hv _ (by omega), vp_in_nI (show 16 * pn (2 * j + 1) + pn (2 * j + 2) < 256 by omega) (by decide), hv _ (by omega), hv _ (by omega), ?_⟩⟩
      have e3 : (nI (16 * pn (2 * j + 1) + pn (2 * j + 1 + 1))).toNatClampNeg = 16 * pn (2 * j + 1) + pn (2 * j + 2) := by
        show (nI (16 * pn (2 * j + 1) + pn (2 * j + 2))).toNatClampNeg = 16 * pn (2 * j + 1) + pn (2 * j + 2)
        exact nI_clamp (by omega)
      rw [e3, hC.2.2.2.1 _ _ l1 l2, iI_min (by omega) (by omega) (by omega) (by omega), nI_1]
      exact ih () trivial
  exact first
/-- the choice of most worth -/
theorem c40 (hM : aM T a) (hT : ∀ c, T c = true → c < 16) (hl : l = 8 ∨ l = 85) (hrf : ∀ c, c < 16 → T c = true → ov c c = true) (htr : ∀ x y z, x < 16 → y < 16 → z < 16 → ov x y = true → ov y z = true → ov x z = true) (hin : ∀ x y, ov x y = true → x < 16)
    (hw : ∀ c, c < 16 → T c = true → σ.1 87 c = iI (a c)) (ho : ∀ c, c < 16 → T c = true → σ.1 l c = sX (fun b => ov b c))
    (k : ∀ σ' U, Fr [86, 88, 89, 90, 91] σ σ' → MX 16 (fun x y => ov x y || decide (x = y)) T a U → (∀ c, U c = true → T c = true) → Q (some (.int (sX U))) σ') : Cm Θ (d + 3) 40 [.ref 86, .int (sX T), .ref l] σ Q := by
  have hls := l_shq hl
  refine K40 (n2 := 16) (B40_0 hls.2 ⟨hls.1, ?_⟩)
  refine c41 hM (σ := sR σ 86 5 l) ⟨hl, sR_at _ _ _ _⟩ (fun c hc hTc => by rw [sR_I]; exact hw c hc hTc) (fun c hc hTc => by rw [sR_I]; exact ho c hc hTc) fun σ2 hf2 hC2 => ⟨rfl, ?_⟩
  have hf2' : Fr [86, 88, 89, 90, 91] σ σ2 := ((Fr.rfl.R (by simp)).tr (hf2.mono (by simp)))
  have hP0 : Pay 16 ov T a (fun c => ((a c).natAbs : Nat)) (fun _ _ => 0) := by
    refine ⟨fun p hp hP => ?_, fun o ho' hW => ?_, fun p o _ _ => ⟨Int.le_refl 0, fun h => absurd rfl h⟩⟩
    · have := (isP_T hP).2
      refine ⟨(show (0 : Int) ≤ ((a p).natAbs : Nat) by omega), ?_⟩
      rw [sZ_zero]; show a p = ((a p).natAbs : Int) + 0; omega
    · have := (isW_T hW).2
      refine ⟨(show (0 : Int) ≤ ((a o).natAbs : Nat) by omega), ?_⟩
      rw [sZ_zero]; show - a o = ((a o).natAbs : Int) + 0; omega
  -- the order that the payments keep to, made whole
  obtain ⟨ow, how⟩ : ∃ ow : Nat → Nat → Bool, ow = fun x y => ov x y || decide (x = y) := ⟨_, rfl⟩
  rw [← how] at k
  have ow_iff : ∀ x y, ow x y = true ↔ ov x y = true ∨ x = y := fun x y => by rw [how]; simp
  have ow_rf : ∀ c, c < 16 → ow c c = true := fun c _ => (ow_iff c c).mpr (Or.inr rfl)
  have ow_tr : ∀ x y z, x < 16 → y < 16 → z < 16 → ow x y = true → ow y z = true → ow x z = true := fun x y z hx hy hz h h' => by
    rw [ow_iff] at h h' ⊢
    rcases h with h | rfl <;> rcases h' with h' | rfl
    · exact Or.inl (htr x y z hx hy hz h h')
    · exact Or.inl h
    · exact Or.inl h'
    · exact Or.inr rfl
  have ow_ov : ∀ p o, isP T a p = true → isW T a o = true → (ow o p = true ↔ ov o p = true) := fun p o hP hW => by
    rw [ow_iff]
    refine ⟨fun h => ?_, Or.inl⟩
    rcases h with h | h
    · exact h
    · rw [h] at hW; rw [isPW hP] at hW; cases hW
  have pay_ow : ∀ lf pd, Pay 16 ov T a lf pd → Pay 16 ow T a lf pd := fun lf pd h => ⟨h.1, h.2.1, fun p o hp ho' => ⟨(h.2.2 p o hp ho').1, fun z => by
    have := (h.2.2 p o hp ho').2 z
    exact ⟨this.1, this.2.1, (ow_ov p o this.1 this.2.1).mpr this.2.2⟩⟩⟩
  refine ⟨fun hne => ?_, fun h0 => ?_⟩
  · -- the last loop: those over the reached payers
    have last : ∀ s Rs lf pd, Fr [86, 88, 89, 90, 91] σ s → CuS l T a ov lf pd s → Pay 16 ov T a lf pd → s.1 86 8 = sX Rs → (∀ p, p < 16 → isP T a p = true → 0 < lf p → Rs p = true) → (∀ p o, p < 16 → o < 16 → isP T a p = true → isW T a o = true → Rs p = true → ov o p = true → Rs o = true) →
        (∀ p o, p < 16 → o < 16 → isP T a p = true → isW T a o = true → Rs o = true → pd p o ≠ 0 → Rs p = true) → (∀ o, o < 16 → isW T a o = true → Rs o = true → lf o = 0) →
        (∀ V : Nat → Bool, (∀ p, p < 16 → isP T a p = true → 0 < lf p → V p = true) → (∀ p o, p < 16 → o < 16 → isP T a p = true → isW T a o = true → V p = true → ov o p = true → V o = true) → (∀ p o, p < 16 → o < 16 → isP T a p = true → isW T a o = true → V o = true → pd p o ≠ 0 → V p = true) → ∀ c, c < 16 → Rs c = true → V c = true) →
        G Θ (d + 3) 40 60 [some (.ref 86), some (.int (sX T)), none, none, some (.int 0), some (.int 0)] [] s Q := by
      intro s Rs lf pd hf hC hP e8 r1 r2 r3 r4 r5
      obtain ⟨A, hA⟩ : ∃ A : Nat → Bool, A = fun c => exB 16 (fun p => (isP T a p && Rs p) && (ov c p && T c)) := ⟨_, rfl⟩
      have hAi : ∀ c, A c = true ↔ T c = true ∧ ∃ p, p < 16 ∧ isP T a p = true ∧ Rs p = true ∧ ov c p = true := fun c => by
        rw [hA]; show exB 16 _ = true ↔ _
        rw [exB_iff]
        constructor
        · rintro ⟨p, hp, h⟩
          rw [Bool.and_eq_true, Bool.and_eq_true, Bool.and_eq_true] at h
          exact ⟨h.2.2, p, hp, h.1.1, h.1.2, h.2.1⟩
        · rintro ⟨h, p, hp, h1, h2, h3⟩
          exact ⟨p, hp, by rw [h1, h2, h3, h]; rfl⟩
      have hMX : MX 16 ow T a A := by
        refine pay_done (lf := lf) (pd := pd) (R := Rs) ow_rf ow_tr (pay_ow lf pd hP) r1 (fun p o hp ho' hP' hW' hR hov => r2 p o hp ho' hP' hW' hR ((ow_ov p o hP' hW').mp hov)) r3 r4 (fun V v1 v2 v3 => r5 V v1 (fun p o hp ho' hP' hW' hV hov => v2 p o hp ho' hP' hW' hV ((ow_ov p o hP' hW').mpr hov)) v3) (fun c hc => ?_)
        rw [hAi]
        constructor
        · rintro ⟨h, p, hp, h1, h2, h3⟩
          exact ⟨h, p, hp, h1, h2, (ow_iff c p).mpr (Or.inl h3)⟩
        · rintro ⟨h, p, hp, h1, h2, h3⟩
          refine ⟨h, p, hp, h1, h2, ?_⟩
          rcases (ow_iff c p).mp h3 with z | z
          · exact z
          · rw [z]; exact hrf p hp (isP_T h1).1
      have fin := k s A hf hMX (fun c h => ((hAi c).mp h).1)
      rw [sX_0]
      have start := loopN (P := fun c => G Θ (d + 3) 40 60 [some (.ref 86), some (.int (sX T)), none, none, some (.int (sX (fun x => exB c (fun p => (isP T a p && Rs p) && (ov x p && T x))))), some (.int (nI c))] [] s Q) 16 ?_ ?_
      · exact start
      · refine B40_60 ⟨fun _ => ?_, fun h => absurd (by decide) h⟩
        rw [hA] at fin; exact fin
      · intro c hc ih
        refine B40_60 ⟨fun h => absurd h (nI_ge hc (by decide)), fun _ => ?_⟩
        have eb : ((s.1 86 8 >>> (nI c &&& 31)) &&& (s.1 86 6 >>> (nI c &&& 31))) &&& 1 = b01 (isP T a c && Rs c) := by
          rw [e8, hC.2.1.1]
          have h1 := sX_shr Rs hc
          have h2 := sX_shr (isP T a) hc
          have : ((sX Rs >>> (nI c &&& 31)) &&& (sX (isP T a) >>> (nI c &&& 31))) &&& 1 = ((sX Rs >>> (nI c &&& 31)) &&& 1) &&& ((sX (isP T a) >>> (nI c &&& 31)) &&& 1) := by
            apply bt_ext; intro k _
            simp only [bt_and]
            cases bt (sX Rs >>> (nI c &&& 31)) k <;> cases bt (sX (isP T a) >>> (nI c &&& 31)) k <;> cases bt 1 k <;> rfl
          rw [this, h1, h2]
          cases Rs c <;> cases isP T a c <;> rfl
        rw [eb, nI_1, nI_clamp (by omega), hC.1.2]
        have ex : ∀ x, exB (c + 1) (fun p => (isP T a p && Rs p) && (ov x p && T x)) = (exB c (fun p => (isP T a p && Rs p) && (ov x p && T x)) || ((isP T a c && Rs c) && (ov x c && T x))) := fun x => rfl
        refine ⟨fun h => ?_, fun h => ⟨hls.1, hls.2, vp_in_nI hc (by decide), ?_⟩⟩
        · rw [b01_0] at h
          have e : sX (fun x => exB (c + 1) (fun p => (isP T a p && Rs p) && (ov x p && T x))) = sX (fun x => exB c (fun p => (isP T a p && Rs p) && (ov x p && T x))) := sX_congr fun x _ => by rw [ex, h]; simp
          rw [e] at ih
          exact ih
        · rw [b01_n] at h
          have hTc : T c = true := by rw [Bool.and_eq_true] at h; exact (isP_T h.1).1
          rw [hC.2.2.2.2 c hc hTc, sX_and, sX_or]
          have e : sX (fun x => exB (c + 1) (fun p => (isP T a p && Rs p) && (ov x p && T x))) = sX (fun x => exB c (fun p => (isP T a p && Rs p) && (ov x p && T x)) || (ov x c && T x)) := sX_congr fun x _ => by rw [ex, h]; simp
          rw [e] at ih
          exact ih
    -- rounds
    have bound := pot_le 16 ov (isP T a) (isW T a) (fun c => ((a c).natAbs : Nat)) (fun _ _ => 0)
    have main : ∀ n r s lf pd, pot 16 ov (isP T a) (isW T a) lf pd ≤ n → r + n ≤ 20000 → Fr [86, 88, 89, 90, 91] σ s → CuS l T a ov lf pd s → Pay 16 ov T a lf pd →
        Ci Θ (d + 2) 43 [.ref 86] s (fun v σ' => G Θ (d + 3) 40 27 [some (.ref 86), some (.int (sX T)), none, some (.int v), some (.int (nI r)), none] [] σ' Q) := by
      intro n
      induction n with
      | zero =>
        intro r s lf pd hp hr hf hC hP
        refine c43 hM hC hP (fun σ' Rs hk e8 r1 r2 r3 r4 r5 => ⟨_, rfl, ?_⟩) (fun σ' Rs rk o0 hk ho' hW hR hlo hB hex => ?_)
        · have fs : Fr [86, 88, 89, 90, 91] σ σ' := hf.tr (hk.1.mono (by simp))
          have go := last σ' Rs lf pd fs (CuS_kp hC hk) hP e8 r1 r2 r3 r4 r5
          exact B40_27 ⟨fun _ => go, fun _ => ⟨fun _ => go, fun h => absurd (by decide) h⟩⟩
        · -- no round is left: that can't be
          have h1 : cN 16 (fun v => decide (0 < lf v)) = 0 := by
            have : pot 16 ov (isP T a) (isW T a) lf pd = sN 16 _ + cN 16 (fun v => decide (0 < lf v)) := rfl
            omega
          have := cN_eq0 16 h1 o0 ho'
          exact absurd hlo (of_decide_eq_false this)
      | succ n ih =>
        intro r s lf pd hp hr hf hC hP
        refine c43 hM hC hP (fun σ' Rs hk e8 r1 r2 r3 r4 r5 => ⟨_, rfl, ?_⟩) (fun σ' Rs rk o0 hk ho' hW hR hlo hB hex => ⟨_, rfl, ?_⟩)
        · have fs : Fr [86, 88, 89, 90, 91] σ σ' := hf.tr (hk.1.mono (by simp))
          have go := last σ' Rs lf pd fs (CuS_kp hC hk) hP e8 r1 r2 r3 r4 r5
          exact B40_27 ⟨fun _ => go, fun _ => ⟨fun _ => go, fun h => absurd (by decide) h⟩⟩
        · have fs : Fr [86, 88, 89, 90, 91] σ σ' := hf.tr (hk.1.mono (by simp))
          refine B40_27 ⟨fun h => absurd h (nI_ge (b := 100000) (by omega) (by decide)), fun _ => ⟨fun h => absurd h (nI_pos (by omega)), fun _ => ?_⟩⟩
          refine c46 hM (CuS_kp hC hk) hP ho' hW hR hlo hB hex fun s3 lf3 pd3 hf3 hC3 hP3 hlt => ⟨rfl, ?_⟩
          rw [nI_1]
          exact ih (r + 1) s3 lf3 pd3 (by omega) (by omega) (fs.tr (hf3.mono (by simp))) hC3 hP3
    exact main _ 0 σ2 _ _ (Nat.le_refl _) (by omega) hf2' hC2 hP0
  · rw [hC2.2.1.1, sX_eq0] at h0
    -- nobody pays: nothing is worth anything
    have hMX : MX 16 ow T a (fun _ => false) := by
      refine ⟨⟨fun _ _ h => (by cases h), fun _ _ _ _ _ h _ => (by cases h)⟩, fun V hV => ⟨?_, fun _ c _ h => (by cases h)⟩⟩
      have e0 : sS 16 (fun _ => false) a = 0 := by rw [sS, sZ_congr 16 (g := fun _ => 0) (fun _ _ => by simp), sZ_zero]
      rw [e0]
      have := sZ_le (f := fun c => if V c = true then a c else 0) (g := fun _ => 0) 16 (fun c hc => by
        by_cases z : V c = true
        · rw [if_pos z]
          have hTc := hV.1 c hc z
          have := h0 c hc
          simp only [isP, hTc, Bool.true_and, decide_eq_false_iff_not] at this
          omega
        · rw [if_neg z]; exact Int.le_refl 0)
      rw [sZ_zero] at this; exact this
    have := k σ2 (fun _ => false) hf2' hMX (fun _ h => by cases h)
    rw [← sX_0] at this; exact this
end choose
