/-! CONTRACTS: the class's Order -/
/-- the rows of an order object -/
def OrC (o : Nat) (D : Nat → Nat → Bool) (σ : Mem) : Prop := (o = 6 ∨ o = 83) ∧ ∀ a, a < 16 → σ.1 (o + 1) a = sX (D a) ∧ σ.1 (o + 2) a = sX (fun b => D b a)
theorem or_s {o : Nat} (h : o = 6 ∨ o = 83) : (shq o).1 = 8 := by rcases h with rfl | rfl <;> rfl
theorem shq_o8 {o : Nat} (h : o = 6 ∨ o = 83) : shq (o + 1) = (20, 16) ∧ shq (o + 2) = (20, 16) := by rcases h with rfl | rfl <;> exact ⟨rfl, rfl⟩
section order
variable {Θ : Th} {d : Nat} {σ : Mem} {o r lv : Nat} {B : Bk}
theorem c79 {D : Nat → Nat → Bool} {i j : Nat} (hD : OrC o D σ) (hi : i < 16) (hj : j < 16) : Ci Θ d 79 [.ref o, .int (nI i), .int (nI j)] σ (fun v σ' => σ' = σ ∧ v = b01 (D i j)) := by
  refine K79 (B79_0 (or_s hD.1) ⟨vp_in_nI hi (by decide), ?_⟩)
  rw [nI_clamp (by omega), (hD.2 i hi).1, sX_shr _ hj]
  exact ⟨fun h => ⟨0, rfl, rfl, by rw [b01_0.mp h]; rfl⟩, fun h => ⟨1, rfl, rfl, by rw [b01_n.mp h]; rfl⟩⟩
theorem c76 {p : Nat → Bool} (ho : o = 6 ∨ o = 83) (hB : BkC r lv B σ) (hk : BkOk lv B) :
    Cv Θ (d + 2) 76 [.ref o, .ref r, .int (sX p)] σ (fun σ' => Fr [o + 1, o + 2] σ σ' ∧ OrC o (oV B p 0) σ') := by
  obtain ⟨hB0, ⟨hm, -, -, -⟩, ⟨hn, -, -, -, -, hst⟩, -⟩ := hB
  obtain ⟨km, ⟨kn, klv⟩, ktp, -, kc, -⟩ := hk
  have hq := shq_o8 ho
  refine K76 (B76_0 (or_s ho) (bk_s hB0) ?_)
  refine (c292 hq.1 (by decide)).mono fun σ1 ⟨f1, z1⟩ => (c292 hq.2 (by decide)).mono fun σ2 ⟨f2, z2⟩ => ?_
  have f2' : Fr [o + 1, o + 2] σ σ2 := (f1.mono (by simp)).tr (f2.mono (by simp))
  have z1' : ∀ k, k < 16 → σ2.1 (o + 1) k = 0 := fun k hk => by rw [(f2 (o + 1) (by simp)).1]; exact z1 k hk
  have keep : ∀ s : Mem, Fr [o + 1, o + 2] σ s → s.1 r 4 = nI (bN B) ∧ s.1 r 0 = nI (bM B) ∧ ∀ c m, c < lv → m < bM B → s.1 (r + 7) (6 * c + m) = nI (bS B c m) := by
    intro s hs
    have e1 := (hs r (by simp; omega)).1
    have e2 := (hs (r + 7) (by simp; omega)).1
    exact ⟨by rw [e1]; exact hn, by rw [e1]; exact hm, fun c m hc hm => by rw [e2]; exact hst c m hc hm⟩
  let R (i j : Nat) : Nat → Nat → Bool := fun a b => oV B p 0 a b && (decide (a < i) || (decide (a = i) && decide (b < j)))
  have hR : ∀ i j a b, R i j a b = true ↔ oV B p 0 a b = true ∧ (a < i ∨ (a = i ∧ b < j)) := by
    intro i j a b; simp [R]
  have bnd : ∀ a b, oV B p 0 a b = true → a < bN B ∧ b < bN B := fun a b h => ⟨(oV_iff.mp h).1, (oV_iff.mp h).2.1⟩
  refine loopS (α := Mem) (I := fun i s => Fr [o + 1, o + 2] σ s ∧ OrC o (R i 0) s) (P := fun i s => G Θ (d + 2) 76 18 [some (.ref o), some (.ref r), some (.int (sX p)), some (.int (nI i)), none] [] s (Pv fun σ' => Fr [o + 1, o + 2] σ σ' ∧ OrC o (oV B p 0) σ')) (bN B) ?_ ?_ σ2 ⟨f2', ho, fun a ha => ⟨?_, ?_⟩⟩
  · intro s ⟨hf, hs⟩
    refine B76_18 (or_s ho) (bk_s hB0) ⟨fun _ => ⟨rfl, hf, ho, fun a ha => ?_⟩, fun h => absurd (by rw [(keep s hf).1]; exact nI_le (Nat.le_refl _) (by omega)) h⟩
    have e : ∀ a b, R (bN B) 0 a b = oV B p 0 a b := fun a b => bool_eq (by
      rw [hR]; exact ⟨fun h => h.1, fun h => ⟨h, Or.inl (bnd a b h).1⟩⟩)
    have h1 := hs.2 a ha
    exact ⟨h1.1.trans (sX_congr fun b _ => e a b), h1.2.trans (sX_congr fun b _ => e b a)⟩
  · intro i s hi ⟨hf, hs⟩ ih
    refine B76_18 (or_s ho) (bk_s hB0) ⟨fun h => absurd h (by rw [(keep s hf).1]; exact nI_ge hi (by omega)), fun _ => ?_⟩
    refine loopS (α := Mem) (I := fun j s => Fr [o + 1, o + 2] σ s ∧ OrC o (R i j) s) (P := fun j s => G Θ (d + 2) 76 29 [some (.ref o), some (.ref r), some (.int (sX p)), some (.int (nI i)), some (.int (nI j))] [] s (Pv fun σ' => Fr [o + 1, o + 2] σ σ' ∧ OrC o (oV B p 0) σ')) (bN B) ?_ ?_ s ⟨hf, hs⟩
    · intro s' ⟨hf', hs'⟩
      refine B76_29 (or_s ho) (bk_s hB0) ⟨fun _ => ?_, fun h => absurd (by rw [(keep s' hf').1]; exact nI_le (Nat.le_refl _) (by omega)) h⟩
      rw [nI_1]
      refine ih s' ⟨hf', ho, fun a ha => ?_⟩
      have e : ∀ a b, R i (bN B) a b = R (i + 1) 0 a b := fun a b => bool_eq (by
        rw [hR, hR]
        constructor
        · rintro ⟨h, h' | ⟨h', -⟩⟩
          · exact ⟨h, Or.inl (by omega)⟩
          · exact ⟨h, Or.inl (by omega)⟩
        · rintro ⟨h, h' | ⟨h', h''⟩⟩
          · rcases Nat.lt_or_ge a i with q | q
            · exact ⟨h, Or.inl q⟩
            · exact ⟨h, Or.inr ⟨by omega, (bnd a b h).2⟩⟩
          · omega)
      have h1 := hs'.2 a ha
      exact ⟨h1.1.trans (sX_congr fun b _ => e a b), h1.2.trans (sX_congr fun b _ => e b a)⟩
    · intro j s' hj ⟨hf', hs'⟩ ih'
      refine B76_29 (or_s ho) (bk_s hB0) ⟨fun h => absurd h (by rw [(keep s' hf').1]; exact nI_ge hj (by omega)), fun _ => ?_⟩
      obtain ⟨k1, k2, k3⟩ := keep s' hf'
      refine ro (c18 (bk_s hB0) k2 km (by omega) (by omega) (s := bS B i) (t := bS B j) (fun m hm => ⟨k3 i m (by omega) hm, by have := (kc i (by omega)).2.2.2.2.2 m hm; have := (ktp m hm).2; omega⟩) (fun m hm => ⟨k3 j m (by omega) hm, by have := (kc j (by omega)).2.2.2.2.2 m hm; have := (ktp m hm).2; omega⟩)) ?_
      have e0 : oV B p 0 i j = nl (bM B) p (bS B i) (bS B j) := by rw [oV_0]; simp [hi, hj, nlB]
      refine ⟨fun h => ?_, fun h => ?_⟩
      · rw [b01_0, ← e0] at h
        rw [nI_1]
        refine ih' s' ⟨hf', ho, fun a ha => ?_⟩
        have e : ∀ a b, R i j a b = R i (j + 1) a b := fun a b => bool_eq (by
          rw [hR, hR]
          constructor
          · rintro ⟨h1, h2⟩; exact ⟨h1, by omega⟩
          · rintro ⟨h1, h2⟩
            refine ⟨h1, ?_⟩
            rcases h2 with h2 | ⟨h2, h3⟩
            · exact Or.inl h2
            · rcases Nat.lt_or_ge b j with q | q
              · exact Or.inr ⟨h2, q⟩
              · have hb : b = j := by omega
                subst hb; subst h2; rw [h] at h1; cases h1)
        have h1 := hs'.2 a ha
        exact ⟨h1.1.trans (sX_congr fun b _ => e a b), h1.2.trans (sX_congr fun b _ => e b a)⟩
      · rw [b01_n, ← e0] at h
        have hi16 : i < 16 := by omega
        have hj16 : j < 16 := by omega
        refine ⟨vp_in_nI hi16 (by decide), vp_in_nI hi16 (by decide), vp_in_nI hj16 (by decide), vp_in_nI hj16 (by decide), ?_⟩
        rw [nI_1, nI_clamp (by omega), nI_clamp (by omega)]
        refine ih' _ ⟨(hf'.I (by simp)).I (by simp), ho, fun a ha => ⟨?_, ?_⟩⟩
        · rw [sI_of _ _ (by omega)]
          by_cases e : a = i
          · subst e
            rw [sI_at, (hs'.2 a ha).1, sX_add1 _ hj16]
            refine sX_congr fun b _ => bool_eq ?_
            rw [Bool.or_eq_true, hR, hR, decide_eq_true_eq]
            constructor
            · rintro (⟨h1, h2⟩ | rfl)
              · exact ⟨h1, by omega⟩
              · exact ⟨h, by omega⟩
            · rintro ⟨h1, h2⟩
              rcases Decidable.em (b = j) with q | q
              · exact Or.inr q
              · exact Or.inl ⟨h1, by omega⟩
          · rw [sI_of _ _ (by omega), (hs'.2 a ha).1]
            refine sX_congr fun b _ => bool_eq ?_
            rw [hR, hR]
            exact ⟨fun ⟨h1, h2⟩ => ⟨h1, by omega⟩, fun ⟨h1, h2⟩ => ⟨h1, by omega⟩⟩
        · by_cases e : a = j
          · subst e
            rw [sI_at, sI_of _ _ (by omega), (hs'.2 a ha).2, sX_add1 _ hi16]
            refine sX_congr fun b _ => bool_eq ?_
            rw [Bool.or_eq_true, hR, hR, decide_eq_true_eq]
            constructor
            · rintro (⟨h1, h2⟩ | rfl)
              · exact ⟨h1, by omega⟩
              · exact ⟨h, by omega⟩
            · rintro ⟨h1, h2⟩
              rcases Decidable.em (b = i) with q | q
              · exact Or.inr q
              · exact Or.inl ⟨h1, by omega⟩
          · rw [sI_of _ _ (by omega), sI_of _ _ (by omega), (hs'.2 a ha).2]
            refine sX_congr fun b _ => bool_eq ?_
            rw [hR, hR]
            exact ⟨fun ⟨h1, h2⟩ => ⟨h1, by omega⟩, fun ⟨h1, h2⟩ => ⟨h1, by omega⟩⟩
  · rw [z1' a ha, sX_0]; exact sX_congr fun k hk => by simp [R]
  · rw [z2 a ha, sX_0]; exact sX_congr fun k hk => by simp [R]
theorem c78 {D : Nat → Nat → Bool} {i j : Nat} (hD : OrC o D σ) :
    Cv Θ d 78 [.ref o, .int (sX (fun b => D b i)), .int (sX (D j))] σ (fun σ' => Fr [o + 1, o + 2] σ σ' ∧ OrC o (fun x y => D x y || (D x i && D j y)) σ') := by
  have ho := hD.1
  refine K78 (B78_0 (or_s ho) ?_)
  refine loopS (α := Mem) (I := fun c s => Fr [o + 1, o + 2] σ s ∧ (∀ a, a < 16 → s.1 (o + 1) a = sX (fun b => D a b || (decide (a < c) && (D a i && D j b))) ∧ s.1 (o + 2) a = sX (fun b => D b a || (decide (a < c) && (D b i && D j a)))))
    (P := fun c s => G Θ d 78 2 [some (.ref o), some (.int (sX (fun b => D b i))), some (.int (sX (D j))), some (.int (nI c))] [] s (Pv fun σ' => Fr [o + 1, o + 2] σ σ' ∧ OrC o (fun x y => D x y || (D x i && D j y)) σ')) 16 ?_ ?_ σ ⟨Fr.rfl, fun a ha => ?_⟩
  · intro s ⟨hf, hs⟩
    refine B78_2 (or_s ho) ⟨fun _ => ⟨rfl, hf, ho, fun a ha => ?_⟩, fun h => absurd (by decide) h⟩
    have := hs a ha
    exact ⟨this.1.trans (sX_congr fun b _ => by simp [ha]), this.2.trans (sX_congr fun b _ => by simp [ha])⟩
  · intro c s hc ⟨hf, hs⟩ ih
    refine B78_2 (or_s ho) ⟨fun h => absurd h (nI_ge hc (by decide)), fun _ => ?_⟩
    rw [sX_shr _ hc, sX_shr _ hc, nI_1, nI_clamp (by omega)]
    have hv := vp_in_nI hc (by decide)
    have e1 := (hs c hc).1
    have e2 := (hs c hc).2
    -- rows other than c stay; row c gets its share
    have keep : ∀ a b, ¬ a = c → (decide (a < c) && b) = (decide (a < c + 1) && b) := fun a b h => by
      have : decide (a < c) = decide (a < c + 1) := by rw [decide_eq_decide]; omega
      rw [this]
    have cc : decide (c < c) = false := by simp
    have cc1 : decide (c < c + 1) = true := by simp
    refine ⟨fun h1 => ⟨fun h2 => ?_, fun h2 => ⟨hv, hv, ?_⟩⟩, fun h1 => ⟨hv, hv, ⟨fun h2 => ?_, fun h2 => ⟨hv, hv, ?_⟩⟩⟩⟩
    · rw [b01_0] at h1 h2
      refine ih s ⟨hf, fun a ha => ?_⟩
      have := hs a ha
      by_cases e : a = c
      · subst e
        exact ⟨this.1.trans (sX_congr fun b _ => by simp [h1]), this.2.trans (sX_congr fun b _ => by simp [h2])⟩
      · exact ⟨this.1.trans (sX_congr fun b _ => by rw [keep a _ e]), this.2.trans (sX_congr fun b _ => by rw [keep a _ e])⟩
    · rw [b01_0] at h1
      rw [b01_n] at h2
      refine ih _ ⟨hf.I (by simp), fun a ha => ?_⟩
      have := hs a ha
      by_cases e : a = c
      · subst e
        rw [sI_at, sI_of _ _ (by omega), e2, sX_or]
        exact ⟨this.1.trans (sX_congr fun b _ => by simp [h1]), sX_congr fun b _ => by simp [h2]⟩
      · rw [sI_of _ _ (by omega), sI_of _ _ (by omega)]
        exact ⟨this.1.trans (sX_congr fun b _ => by rw [keep a _ e]), this.2.trans (sX_congr fun b _ => by rw [keep a _ e])⟩
    · rw [b01_n] at h1
      rw [b01_0] at h2
      refine ih _ ⟨hf.I (by simp), fun a ha => ?_⟩
      have := hs a ha
      by_cases e : a = c
      · subst e
        rw [sI_at, sI_of _ _ (by omega), e1, sX_or]
        exact ⟨sX_congr fun b _ => by simp [h1], this.2.trans (sX_congr fun b _ => by simp [h2])⟩
      · rw [sI_of _ _ (by omega), sI_of _ _ (by omega)]
        exact ⟨this.1.trans (sX_congr fun b _ => by rw [keep a _ e]), this.2.trans (sX_congr fun b _ => by rw [keep a _ e])⟩
    · rw [b01_n] at h1 h2
      refine ih _ ⟨(hf.I (by simp)).I (by simp), fun a ha => ?_⟩
      have := hs a ha
      by_cases e : a = c
      · subst e
        rw [sI_of _ _ (by omega), sI_at, sI_at, sI_of _ _ (by omega), e1, e2, sX_or, sX_or]
        exact ⟨sX_congr fun b _ => by simp [h1], sX_congr fun b _ => by simp [h2]⟩
      · rw [sI_of _ _ (by omega), sI_of _ _ (by omega), sI_of _ _ (by omega), sI_of _ _ (by omega)]
        exact ⟨this.1.trans (sX_congr fun b _ => by rw [keep a _ e]), this.2.trans (sX_congr fun b _ => by rw [keep a _ e])⟩
  · have := hD.2 a ha
    exact ⟨this.1.trans (sX_congr fun b _ => by simp), this.2.trans (sX_congr fun b _ => by simp)⟩
/-- all that is told, line by line; the first line against what is ahead of it -/
theorem c77 {p : Nat → Bool} (hD : OrC o (oV B p 0) σ) (hB : BkC r lv B σ) (hk : BkOk lv B) :
    Ci Θ (d + 1) 77 [.ref o, .ref r] σ (fun v σ' => Fr [o + 1, o + 2] σ σ' ∧ OrC o (oV B p (bT B)) σ' ∧ v = iI (fsT (bT B) (fun t => oV B p t (bU B t) (bA B t)))) := by
  have ho := hD.1
  obtain ⟨hB0, -, -, ht, hta, htu⟩ := hB
  obtain ⟨-, ⟨kn, klv⟩, -, -, -, kt, kau⟩ := hk
  have fr : ∀ n f, -1 ≤ fsT n f ∧ fsT n f < n := by
    intro n f
    induction n with
    | zero => exact ⟨Int.le_refl _, (show (-1 : Int) < 0 by decide)⟩
    | succ n ih => show -1 ≤ (if 0 ≤ fsT n f then fsT n f else if f n = true then (n : Int) else -1) ∧ _ < _; simp only [fsT]; split <;> (try split) <;> omega
  have keep : ∀ s : Mem, Fr [o + 1, o + 2] σ s → s.1 r 10 = nI (bT B) ∧ rowI s (r + 8) (bT B) (bA B) ∧ rowI s (r + 9) (bT B) (bU B) := by
    intro s hs
    have e1 := (hs r (by simp; omega)).1
    have e2 := (hs (r + 8) (by simp; omega)).1
    have e3 := (hs (r + 9) (by simp; omega)).1
    exact ⟨by rw [e1]; exact ht, fun k hk => by rw [e2]; exact hta k hk, fun k hk => by rw [e3]; exact htu k hk⟩
  let F : Nat → Nat → Bool := fun n t => oV B p t (bU B t) (bA B t)
  refine K77 (B77_0 (or_s ho) (bk_s hB0) ?_)
  refine loopS (α := Mem) (I := fun t s => Fr [o + 1, o + 2] σ s ∧ OrC o (oV B p t) s)
    (P := fun t s => G Θ (d + 1) 77 4 [some (.ref o), some (.ref r), some (.int (iI (fsT t (fun t => oV B p t (bU B t) (bA B t))))), some (.int (nI t)), none, none] [] s (Pi fun v σ' => Fr [o + 1, o + 2] σ σ' ∧ OrC o (oV B p (bT B)) σ' ∧ v = iI (fsT (bT B) (fun t => oV B p t (bU B t) (bA B t))))) (bT B) ?_ ?_ σ ⟨Fr.rfl, hD⟩
  · intro s ⟨hf, hs⟩
    exact B77_4 (or_s ho) (bk_s hB0) ⟨fun _ => ⟨_, rfl, hf, hs, rfl⟩, fun h => absurd (by rw [(keep s hf).1]; exact nI_le (Nat.le_refl _) (by omega)) h⟩
  · intro t s hlt ⟨hf, hs⟩ ih
    obtain ⟨k1, k2, k3⟩ := keep s hf
    have hA := (kau t hlt).1
    have hU := (kau t hlt).2
    refine B77_4 (or_s ho) (bk_s hB0) ⟨fun h => absurd h (by rw [k1]; exact nI_ge hlt (by omega)), fun _ => ?_⟩
    have hv := vp_in_nI (show t < 20 by omega) (by decide)
    rw [nI_clamp (by omega), k2 t hlt, k3 t hlt, nI_clamp (by omega), nI_clamp (by omega), nI_1]
    have va := vp_in_nI (show bA B t < 16 by omega) (by decide)
    have vu := vp_in_nI (show bU B t < 16 by omega) (by decide)
    have step : ∀ s', Fr [o + 1, o + 2] s s' ∧ OrC o (fun x y => oV B p t x y || (oV B p t x (bA B t) && oV B p t (bU B t) y)) s' → Fr [o + 1, o + 2] σ s' ∧ OrC o (oV B p (t + 1)) s' := by
      intro s' ⟨h1, h2⟩
      refine ⟨hf.tr h1, ho, fun a ha => ?_⟩
      have := h2.2 a ha
      exact ⟨this.1.trans (sX_congr fun b _ => (oV_s hA hU a b).symm), this.2.trans (sX_congr fun b _ => (oV_s hA hU b a).symm)⟩
    have e1 := (hs.2 (bA B t) (by omega)).2
    have e2 := (hs.2 (bU B t) (by omega)).1
    have hfr := fr t (fun t => oV B p t (bU B t) (bA B t))
    refine ⟨hv, hv, fun h => ⟨va, vu, ?_⟩, fun h => ?_⟩
    · rw [show (0 : Int32) = iI 0 from rfl, iI_le (by omega) (by omega) (by omega) (by omega)] at h
      rw [e1, e2]
      refine (c78 hs).mono fun s' h' => ?_
      have := ih s' (step s' h')
      rw [show fsT (t + 1) (fun t => oV B p t (bU B t) (bA B t)) = fsT t (fun t => oV B p t (bU B t) (bA B t)) from if_pos h] at this
      exact this
    · rw [show (0 : Int32) = iI 0 from rfl, iI_le (by omega) (by omega) (by omega) (by omega)] at h
      refine ro (c79 hs (by omega) (by omega)) ⟨fun h2 => ⟨va, vu, ?_⟩, fun h2 => ⟨va, vu, ?_⟩⟩
      · rw [b01_0] at h2
        rw [e1, e2]
        refine (c78 hs).mono fun s' h' => ?_
        have := ih s' (step s' h')
        rw [show fsT (t + 1) (fun t => oV B p t (bU B t) (bA B t)) = fsT t (fun t => oV B p t (bU B t) (bA B t)) from by
          show (if 0 ≤ fsT t _ then _ else if oV B p t (bU B t) (bA B t) = true then (t : Int) else -1) = _
          rw [if_neg h, h2, if_neg (by decide)]; omega] at this
        exact this
      · rw [b01_n] at h2
        rw [e1, e2]
        refine (c78 hs).mono fun s' h' => ?_
        have := ih s' (step s' h')
        rw [show fsT (t + 1) (fun t => oV B p t (bU B t) (bA B t)) = (t : Int) from by
          show (if 0 ≤ fsT t _ then _ else if oV B p t (bU B t) (bA B t) = true then (t : Int) else -1) = _
          rw [if_neg h, if_pos h2], ← iI_nI] at this
        exact this
end order
