/-! CONTRACTS: the cut's search for one that still owes -/
section find
variable {Θ : Th} {d : Nat} {σ : Mem} {Q : Po} {l : Nat} {T : Nat → Bool} {a : Nat → Int} {ov : Nat → Nat → Bool} {lf : Nat → Int} {pd : Nat → Nat → Int}
/-- each ower that is reached owes nothing, and all its payers are reached -/
def CwO (T : Nat → Bool) (a : Nat → Int) (lf : Nat → Int) (pd : Nat → Nat → Int) (rk : Nat → Nat) (Rs : Nat → Bool) : Prop :=
  ∀ o, o < 16 → isW T a o = true → Rs o = true → lf o ≤ 0 ∧ ∀ p, p < 16 → isP T a p = true → pd p o ≠ 0 → Rs p = true ∧ rk p ≤ rk o + 1
/-- the first i of the queue are through -/
def PrO (T : Nat → Bool) (a : Nat → Int) (ov : Nat → Nat → Bool) (rk : Nat → Nat) (Rs : Nat → Bool) (q : Nat → Nat) (i : Nat) : Prop :=
  ∀ j, j < i → ∀ o, o < 16 → isW T a o = true → ov o (q j) = true → Rs o = true ∧ rk o ≤ rk (q j) + 1
theorem lev_rk {rk : Nat → Nat} {Rs : Nat → Bool} {q : Nat → Nat} {sz i ρ : Nat} {cf : Nat → Int32} (hB : Bf0 T a ov lf pd rk Rs q sz ρ cf) (hP : PrO T a ov rk Rs q i) (hq : ∀ j, i ≤ j → j < sz → ρ ≤ rk (q j)) (hW : CwO T a lf pd rk Rs) :
    ∀ k, k ≤ ρ → ∀ v, v < 16 → lev 16 ov (isP T a) (isW T a) lf pd k v = true → Rs v = true ∧ rk v ≤ k := by
  intro k
  induction k with
  | zero => intro _ v hv h; have := lev_0.mp h; have := hB.2.2.1 v hv this.1 this.2; exact ⟨this.1, by omega⟩
  | succ k ih =>
    intro hk v hv h
    rcases lev_s.mp h with h | ⟨h, p, hp, h1, h2, h3⟩ | ⟨h, o, ho, h1, h2, h3⟩
    · have := ih (by omega) v hv h; exact ⟨this.1, by omega⟩
    · have h4 := ih (by omega) p hp h2
      obtain ⟨j, hj, e⟩ := hB.1.2.2 p hp h1 h4.1
      have hji : j < i := by
        rcases Nat.lt_or_ge j i with z | z
        · exact z
        · have := hq j z hj; rw [e] at this; omega
      have := hP j hji v hv h (by rw [e]; exact h3)
      rw [e] at this
      exact ⟨this.1, by omega⟩
    · have h4 := ih (by omega) o ho h2
      have := (hW o ho h1 h4.1).2 v hv h h3
      exact ⟨this.1, by omega⟩
theorem c43 (hM : aM T a) (hC : CuS l T a ov lf pd σ) (hPay : Pay 16 ov T a lf pd)
    (k1 : ∀ σ' Rs, Kp σ σ' → σ'.1 86 8 = sX Rs → (∀ p, p < 16 → isP T a p = true → 0 < lf p → Rs p = true) → (∀ p o, p < 16 → o < 16 → isP T a p = true → isW T a o = true → Rs p = true → ov o p = true → Rs o = true) →
      (∀ p o, p < 16 → o < 16 → isP T a p = true → isW T a o = true → Rs o = true → pd p o ≠ 0 → Rs p = true) → (∀ o, o < 16 → isW T a o = true → Rs o = true → lf o = 0) →
      (∀ V : Nat → Bool, (∀ p, p < 16 → isP T a p = true → 0 < lf p → V p = true) → (∀ p o, p < 16 → o < 16 → isP T a p = true → isW T a o = true → V p = true → ov o p = true → V o = true) → (∀ p o, p < 16 → o < 16 → isP T a p = true → isW T a o = true → V o = true → pd p o ≠ 0 → V p = true) → ∀ c, c < 16 → Rs c = true → V c = true) → Q (some (.int (-1))) σ')
    (k2 : ∀ σ' Rs rk o0, Kp σ σ' → o0 < 16 → isW T a o0 = true → Rs o0 = true → 0 < lf o0 → (∀ x, x < 16 → Rs x = true → Bf2 T a ov lf pd rk Rs (σ'.1 90) x) → (∀ x, x < 16 → Rs x = true → rk x ≤ rk o0 → ∀ k, lev 16 ov (isP T a) (isW T a) lf pd k x = true → rk x ≤ k) → Q (some (.int (nI o0))) σ') :
    Cm Θ (d + 1) 43 [.ref 86] σ Q := by
  have hbd := pay_bd hM hPay
  have hls := l_shq hC.1.1
  have none_ : ∀ i s rk Rs q sz, sz ≤ i → Kp σ s → Cel Rs q sz s → (∃ ρ, Bf0 T a ov lf pd rk Rs q sz ρ (s.1 90) ∧ ∀ j, i ≤ j → j < sz → ρ ≤ rk (q j)) → (i ≤ sz → PrO T a ov rk Rs q i) → (sz < i → PrO T a ov rk Rs q sz) → CwO T a lf pd rk Rs → Q (some (.int (-1))) s := by
    intro i s rk Rs q sz hi hk hc ⟨ρ, hB, _⟩ hp1 hp2 hW
    have hPr : PrO T a ov rk Rs q sz := by
      rcases Nat.lt_or_ge sz i with z | z
      · exact hp2 z
      · have : i = sz := by omega
        subst this; exact hp1 (Nat.le_refl _)
    refine k1 s Rs hk hc.1 (fun p hp hP hl => (hB.2.2.1 p hp hP hl).1) (fun p o hp ho hP hW' hR hov => ?_) (fun p o hp ho hP hW' hR hpd => ((hW o ho hW' hR).2 p hp hP hpd).1) (fun o ho hW' hR => ?_) (fun V v1 v2 v3 => ?_)
    · obtain ⟨j, hj, e⟩ := hB.1.2.2 p hp hP hR
      exact (hPr j hj o ho hW' (by rw [e]; exact hov)).1
    · have h1 := (hW o ho hW' hR).1
      have h2 := (hPay.2.1 o ho hW').1
      omega
    · have : ∀ n c, c < 16 → Rs c = true → rk c ≤ n → V c = true := by
        intro n
        induction n with
        | zero =>
          intro c hc hR hn
          rcases hB.2.1 c hc hR with ⟨h1, -, h3, -⟩ | ⟨-, o, -, -, -, -, -, h⟩ | ⟨-, p, -, -, -, -, -, h⟩
          · exact v1 c hc h1 h3
          · omega
          · omega
        | succ n ih =>
          intro c hc hR hn
          rcases hB.2.1 c hc hR with ⟨h1, -, h3, -⟩ | ⟨h1, o, ho, -, h3, h4, h5, h⟩ | ⟨h1, p, hp, -, h3, h4, h5, h⟩
          · exact v1 c hc h1 h3
          · exact v3 c o hc ho h1 h3 (ih o ho h4 (by omega)) h5
          · exact v2 p c hp hc h3 h1 (ih p hp h4 (by omega)) h5
      exact fun c hc hR => this (rk c) c hc hR (Nat.le_refl _)
  refine K43 (B43_0 ?_)
  refine c44 hC hbd.1 fun σ1 rk1 Rs1 q1 sz1 hk1 hc1 hB1 hno => ⟨_, rfl, ?_⟩
  refine loopS (α := Mem × ((Nat → Nat) × (Nat → Bool)) × (Nat → Nat) × Nat) (I := fun i s => Kp σ s.1 ∧ Cel s.2.1.2 s.2.2.1 s.2.2.2 s.1 ∧ (∃ ρ, Bf0 T a ov lf pd s.2.1.1 s.2.1.2 s.2.2.1 s.2.2.2 ρ (s.1.1 90) ∧ ∀ j, i ≤ j → j < s.2.2.2 → ρ ≤ s.2.1.1 (s.2.2.1 j)) ∧ (i ≤ s.2.2.2 → PrO T a ov s.2.1.1 s.2.1.2 s.2.2.1 i) ∧ (s.2.2.2 < i → PrO T a ov s.2.1.1 s.2.1.2 s.2.2.1 s.2.2.2) ∧ CwO T a lf pd s.2.1.1 s.2.1.2)
    (P := fun i s => G Θ (d + 1) 43 7 [some (.ref 86), some (.int (nI s.2.2.2)), some (.int (nI i)), none, none, none] [] s.1 Q) 16 ?_ ?_ (σ1, (rk1, Rs1), q1, sz1) ⟨hk1, hc1, ⟨0, hB1, fun _ _ _ => Nat.zero_le _⟩, fun _ j hj => absurd hj (Nat.not_lt_zero _), fun h => absurd h (Nat.not_lt_zero _), fun o ho hW hR => by have hR : Rs1 o = true := hR; rw [hno o ho hW] at hR; cases hR⟩
  · rintro ⟨s, ⟨rk, Rs⟩, q, sz⟩ ⟨h1, h2, h3, h4, h5, h6⟩
    have hsz : sz ≤ 16 := by obtain ⟨ρ, hB, -⟩ := h3; exact Bf0_sz hB
    exact B43_7 ⟨fun _ => none_ 16 s rk Rs q sz hsz h1 h2 h3 h4 h5 h6, fun h => absurd (nI_le hsz (by decide)) h⟩
  · rintro i ⟨s, ⟨rk, Rs⟩, q, sz⟩ hi ⟨h1, h2, h3, h4, h5, h6⟩ ih
    have h1 : Kp σ s := h1
    have h2 : Cel Rs q sz s := h2
    have h3 : ∃ ρ, Bf0 T a ov lf pd rk Rs q sz ρ (s.1 90) ∧ ∀ j, i ≤ j → j < sz → ρ ≤ rk (q j) := h3
    have h6 : CwO T a lf pd rk Rs := h6
    have hC' := CuS_kp hC h1
    have hsz : sz ≤ 16 := by obtain ⟨ρ, hB, -⟩ := h3; exact Bf0_sz hB
    have vi := vp_in_nI hi (by decide)
    refine B43_7 ⟨fun h => ?_, fun h => ⟨fun z => absurd z (nI_ge hi (by decide)), fun _ => ⟨vi, ?_⟩⟩⟩
    · have h : nI sz ≤ nI i := h
      rw [nI_leI (by omega) (by omega)] at h
      exact none_ i s rk Rs q sz h h1 h2 h3 h4 h5 h6
    · have h : ¬ nI sz ≤ nI i := h
      rw [nI_leI (by omega) (by omega)] at h
      have hisz : i < sz := by omega
      have hPr : PrO T a ov rk Rs q i := h4 (by show i ≤ sz; omega)
      obtain ⟨ρ0, hB0, hq0⟩ := h3
      -- raise the level
      have hB : Bf0 T a ov lf pd rk Rs q sz (rk (q i)) (s.1 90) := by
        obtain ⟨b1, b2, b3, b4, b5, b6⟩ := hB0
        have := hq0 i (Nat.le_refl _) hisz
        exact ⟨b1, b2, b3, b4, fun j hj => Nat.le_trans (b5 j hj) (by omega), fun o ho hW hR => Nat.le_trans (b6 o ho hW hR) (by omega)⟩
      obtain ⟨hqi, hqP, hqR⟩ := hB.1.1 i hisz
      have vq := vp_in_nI hqi (by decide)
      show (s.2.2 86 5 ≠ 0 ∧ shq (s.2.2 86 5) = (20, 16) ∧ vp_in (s.1 91 (nI i).toNatClampNeg) 16 ∧ G Θ (d + 1) 43 48 [some (.ref 86), some (.int (nI sz)), some (.int (nI i)), some (.int (s.1 91 (nI i).toNatClampNeg)), some (.int ((s.1 (s.2.2 86 5) (s.1 91 (nI i).toNatClampNeg).toNatClampNeg &&& s.1 86 7) &&& (s.1 86 8 ^^^ (-1)))), some (.int 0)] [] s Q)
      rw [hC'.1.2, nI_clamp (by omega), h2.2 i hisz, nI_clamp (by omega), hC'.2.2.2.2 (q i) hqi (isP_T hqP).1, hC'.2.1.2, h2.1, sX_and, sX_dif]
      refine ⟨hls.1, hls.2, vq, ?_⟩
      obtain ⟨op, hop⟩ : ∃ op : Nat → Bool, op = fun k => (ov k (q i) && isW T a k) && !Rs k := ⟨_, rfl⟩
      rw [← hop]
      have hopt : ∀ o, op o = true ↔ ov o (q i) = true ∧ isW T a o = true ∧ Rs o = false := fun o => by
        rw [hop]; simp only [Bool.and_eq_true, Bool.not_eq_true']
        exact ⟨fun h => ⟨h.1.1, h.1.2, h.2⟩, fun h => ⟨⟨h.1, h.2.1⟩, h.2.2⟩⟩
      have next : ∀ s' rk' Rs' q' sz', Kp σ s' → Cel Rs' q' sz' s' → Bf0 T a ov lf pd rk' Rs' q' sz' (rk (q i)) (s'.1 90) → CwO T a lf pd rk' Rs' → (∀ y, y < 16 → Rs y = true → Rs' y = true ∧ rk' y = rk y) → (sz ≤ sz' ∧ (∀ j, j < sz → q' j = q j) ∧ ∀ j, i ≤ j → j < sz' → rk (q i) ≤ rk' (q' j)) → (∀ o', o' < 16 → isW T a o' = true → ov o' (q i) = true → Rs' o' = true ∧ rk' o' ≤ rk (q i) + 1) → G Θ (d + 1) 43 7 [some (.ref 86), some (.int (nI sz')), some (.int (nI i + 1)), none, none, none] [] s' Q := by
        intro s' rk' Rs' q' sz' g1 g2 g3 g4 g5 g6 g7
        rw [nI_1]
        have gq : ∀ j, j < sz → q' j = q j ∧ rk' (q' j) = rk (q j) := fun j hj => by
          have e := g6.2.1 j hj
          have := hB.1.1 j hj
          exact ⟨e, by rw [e]; exact (g5 (q j) this.1 this.2.2).2⟩
        refine ih (s', (rk', Rs'), q', sz') ⟨g1, g2, ⟨rk (q i), g3, fun j hj hj' => g6.2.2 j (by omega) hj'⟩, fun _ => ?_, fun z => absurd z (by show ¬ sz' < i + 1; have := g6.1; omega), g4⟩
        intro j hj o ho hW hov
        have hov : ov o (q' j) = true := hov
        show Rs' o = true ∧ rk' o ≤ rk' (q' j) + 1
        rw [(gq j (by omega)).2]
        rw [(gq j (by omega)).1] at hov
        rcases Nat.lt_or_ge j i with z | z
        · have := hPr j z o ho hW hov
          have g := g5 o ho this.1
          exact ⟨g.1, by rw [g.2]; exact this.2⟩
        · have : j = i := by omega
          subst this
          exact g7 o ho hW hov
      refine loopS (α := Mem × ((Nat → Nat) × (Nat → Bool)) × (Nat → Nat) × Nat) (I := fun o s' => Kp σ s'.1 ∧ Cel s'.2.1.2 s'.2.2.1 s'.2.2.2 s'.1 ∧ Bf0 T a ov lf pd s'.2.1.1 s'.2.1.2 s'.2.2.1 s'.2.2.2 (rk (q i)) (s'.1.1 90) ∧ CwO T a lf pd s'.2.1.1 s'.2.1.2 ∧ (∀ y, y < 16 → Rs y = true → s'.2.1.2 y = true ∧ s'.2.1.1 y = rk y) ∧ (sz ≤ s'.2.2.2 ∧ (∀ j, j < sz → s'.2.2.1 j = q j) ∧ ∀ j, i ≤ j → j < s'.2.2.2 → rk (q i) ≤ s'.2.1.1 (s'.2.2.1 j)) ∧ (∀ o', o' < 16 → isW T a o' = true → ov o' (q i) = true → (o' < o ∨ Rs o' = true) → s'.2.1.2 o' = true ∧ s'.2.1.1 o' ≤ rk (q i) + 1) ∧ ∀ o', o ≤ o' → o' < 16 → op o' = true → s'.2.1.2 o' = false)
        (P := fun o s' => G Θ (d + 1) 43 48 [some (.ref 86), some (.int (nI s'.2.2.2)), some (.int (nI i)), some (.int (nI (q i))), some (.int (sX op)), some (.int (nI o))] [] s'.1 Q) 16 ?_ ?_ (s, (rk, Rs), q, sz) ⟨h1, h2, hB, h6, fun y _ h => ⟨h, rfl⟩, ⟨Nat.le_refl _, fun _ _ => rfl, fun j hj hj' => ?_⟩, fun o' ho' hW hov hz => ?_, fun o' _ ho' hz => ((hopt o').mp hz).2.2⟩
      · rintro ⟨s', ⟨rk', Rs'⟩, q', sz'⟩ ⟨g1, g2, g3, g4, g5, g6, g7, g8⟩
        have go := next s' rk' Rs' q' sz' g1 g2 g3 g4 g5 g6 (fun o' ho' hW hov => g7 o' ho' hW hov (Or.inl ho'))
        exact B43_48 ⟨fun _ => go, fun _ => ⟨fun _ => go, fun h => absurd (by decide) h⟩⟩
      · rintro o ⟨s', ⟨rk', Rs'⟩, q', sz'⟩ ho ⟨g1, g2, g3, g4, g5, g6, g7, g8⟩ ih'
        have g1 : Kp σ s' := g1
        have g2 : Cel Rs' q' sz' s' := g2
        have g3 : Bf0 T a ov lf pd rk' Rs' q' sz' (rk (q i)) (s'.1 90) := g3
        have g4 : CwO T a lf pd rk' Rs' := g4
        have g5 : ∀ y, y < 16 → Rs y = true → Rs' y = true ∧ rk' y = rk y := g5
        have g6 : sz ≤ sz' ∧ (∀ j, j < sz → q' j = q j) ∧ ∀ j, i ≤ j → j < sz' → rk (q i) ≤ rk' (q' j) := g6
        have g7 : ∀ o', o' < 16 → isW T a o' = true → ov o' (q i) = true → (o' < o ∨ Rs o' = true) → Rs' o' = true ∧ rk' o' ≤ rk (q i) + 1 := g7
        have g8 : ∀ o', o ≤ o' → o' < 16 → op o' = true → Rs' o' = false := g8
        have vo := vp_in_nI ho (by decide)
        refine B43_48 ⟨fun h => ?_, fun _ => ⟨fun z => absurd z (nI_ge ho (by decide)), fun _ => ?_⟩⟩
        · rw [sX_eq0] at h
          refine next s' rk' Rs' q' sz' g1 g2 g3 g4 g5 g6 (fun o' ho' hW hov => g7 o' ho' hW hov (Or.inr ?_))
          cases z : Rs o'
          · have := h o' ho'
            rw [(hopt o').mpr ⟨hov, hW, z⟩] at this; cases this
          · rfl
        rw [sX_shr _ ho, nI_1]
        refine ⟨fun h => ?_, fun h => ⟨vo, vo, ?_⟩⟩
        · rw [b01_0] at h
          refine ih' (s', (rk', Rs'), q', sz') ⟨g1, g2, g3, g4, g5, g6, fun o' ho' hW hov hz => g7 o' ho' hW hov ?_, fun o' ho' h16 hz => g8 o' (by omega) h16 hz⟩
          rcases Nat.lt_or_ge o' o with z | z
          · exact Or.inl z
          · rcases hz with hz | hz
            · have : o' = o := by omega
              subst this
              right
              cases z : Rs o'
              · rw [(hopt o').mpr ⟨hov, hW, z⟩] at h; cases h
              · rfl
            · exact Or.inr hz
        · rw [b01_n] at h
          obtain ⟨k3, k4, k5⟩ := (hopt o).mp h
          have hRo : Rs' o = false := g8 o (Nat.le_refl _) ho h
          have hC2 := CuS_kp hC g1
          have bo := hbd.1 o ho (Or.inr k4)
          have hpo : q i ≠ o := fun e => by rw [e] at hqP; rw [isPW hqP] at k4; cases k4
          have gi : q' i = q i := g6.2.1 i hisz
          have hqR' : Rs' (q i) = true ∧ rk' (q i) = rk (q i) := g5 (q i) hqi hqR
          -- o is reached now
          have gR : ∀ y, y < 16 → Rs' y = true → (decide (y = o) || Rs' y) = true ∧ (if y = o then rk (q i) + 1 else rk' y) = rk' y := fun y hy hy2 => by
            have : y ≠ o := fun e => by rw [e, hRo] at hy2; cases hy2
            exact ⟨by simp [hy2], if_neg this⟩
          show ((sI (sI s' 90 (nI o).toNatClampNeg (nI (q i))) 86 8 ((sI s' 90 (nI o).toNatClampNeg (nI (q i))).1 86 8 ||| ((1 : Int32) <<< (nI o &&& 31)))).1 88 (nI o).toNatClampNeg ≤ 0 → _) ∧ _
          rw [nI_clamp (by omega), sI_ne (show (86 : Nat) ≠ 90 by decide), sI_ne (show (88 : Nat) ≠ 86 by decide), sI_ne (show (88 : Nat) ≠ 90 by decide), g2.1, sX_add1 _ ho, hC2.2.2.1 o ho (Or.inr k4), iI_0, iI_le (by omega) (by omega) (by omega) (by omega)]
          have kp : Kp σ (sI (sI s' 90 o (nI (q i))) 86 8 (sX (fun j => Rs' j || decide (j = o)))) := g1.w0.w8
          have e8 : (sI (sI s' 90 o (nI (q i))) 86 8 (sX (fun j => Rs' j || decide (j = o)))).1 86 8 = sX (fun j => decide (j = o) || Rs' j) := by rw [sI_at]; exact sX_congr fun j _ => Bool.or_comm _ _
          have ecf : ∀ x, (sI (sI s' 90 o (nI (q i))) 86 8 (sX (fun j => Rs' j || decide (j = o)))).1 90 x = if x = o then nI (q i) else s'.1 90 x := fun x => by
            rw [sI_ne (by decide)]
            by_cases z : x = o
            · rw [if_pos z, z, sI_at]
            · rw [if_neg z, sI_of _ _ (by omega)]
          have hcel2 : Cel (fun j => decide (j = o) || Rs' j) q' sz' (sI (sI s' 90 o (nI (q i))) 86 8 (sX (fun j => Rs' j || decide (j = o)))) := ⟨e8, fun j hj => by rw [sI_ne (by decide), sI_ne (by decide)]; exact g2.2 j hj⟩
          have hB2 : ∀ x, x < 16 → (decide (x = o) || Rs' x) = true → Bf2 T a ov lf pd (fun y => if y = o then rk (q i) + 1 else rk' y) (fun j => decide (j = o) || Rs' j) ((sI (sI s' 90 o (nI (q i))) 86 8 (sX (fun j => Rs' j || decide (j = o)))).1 90) x := by
            intro x hx hR
            by_cases z : x = o
            · subst z
              refine Or.inr (Or.inr ⟨k4, q i, hqi, by rw [ecf, if_pos rfl], hqP, by simp [hqR'.1], k3, ?_⟩)
              show (if x = x then rk (q i) + 1 else rk' x) = (if q i = x then rk (q i) + 1 else rk' (q i)) + 1
              rw [if_pos rfl, if_neg hpo, hqR'.2]
            · simp only [z, decide_false, Bool.false_or] at hR
              exact Bf2_mono gR (if_neg z) (by rw [ecf, if_neg z]) (g3.2.1 x hx hR)
          have ne_o : ∀ p, isP T a p = true → p ≠ o := fun p hP e => by rw [e] at hP; rw [isPW hP] at k4; cases k4
          have hBn : Bf0 T a ov lf pd (fun y => if y = o then rk (q i) + 1 else rk' y) (fun j => decide (j = o) || Rs' j) q' sz' (rk (q i)) ((sI (sI s' 90 o (nI (q i))) 86 8 (sX (fun j => Rs' j || decide (j = o)))).1 90) := by
            obtain ⟨b1, b2, b3, b4, b5, b6⟩ := g3
            refine ⟨⟨fun j hj => ⟨(b1.1 j hj).1, (b1.1 j hj).2.1, (gR _ (b1.1 j hj).1 (b1.1 j hj).2.2).1⟩, b1.2.1, fun p hp hP hR => ?_⟩, hB2, fun p hp hP hl => ?_, fun i' j hij hj => ?_, fun j hj => ?_, fun o' ho' hW hR => ?_⟩
            · have hR : (decide (p = o) || Rs' p) = true := hR
              simp only [ne_o p hP, decide_false, Bool.false_or] at hR
              exact b1.2.2 p hp hP hR
            · have := b3 p hp hP hl
              have g := gR p hp this.1
              exact ⟨g.1, g.2.trans this.2⟩
            · show (if q' i' = o then _ else rk' (q' i')) ≤ (if q' j = o then _ else rk' (q' j))
              rw [if_neg (ne_o _ (b1.1 i' (by omega)).2.1), if_neg (ne_o _ (b1.1 j hj).2.1)]
              exact b4 i' j hij hj
            · show (if q' j = o then _ else rk' (q' j)) ≤ _
              rw [if_neg (ne_o _ (b1.1 j hj).2.1)]
              exact b5 j hj
            · show (if o' = o then rk (q i) + 1 else rk' o') ≤ rk (q i) + 1
              have hR : (decide (o' = o) || Rs' o') = true := hR
              by_cases z : o' = o
              · rw [if_pos z]; exact Nat.le_refl _
              · rw [if_neg z]
                simp only [z, decide_false, Bool.false_or] at hR
                exact b6 o' ho' hW hR
          refine ⟨fun z => ?_, fun z => ?_⟩
          · refine c45 (rk0 := fun y => if y = o then rk (q i) + 1 else rk' y) (Rs0 := fun j => decide (j = o) || Rs' j) (q0 := q') (sz0 := sz') (ρ := rk (q i)) (CuS_kp hC kp) hbd.2 ho k4 (by simp) (if_pos rfl) hcel2 hBn fun s3 rk3 Rs3 q3 sz3 m1 m2 m3 m4 m5 m6 m7 m8 m9 => ⟨_, rfl, ?_⟩
            have kp3 : Kp σ s3 := ⟨kp.1.tr m1.1, m1.2.1.trans kp.2.1, fun j hj => (m1.2.2 j hj).trans (kp.2.2 j hj)⟩
            have ext : ∀ y, y < 16 → Rs' y = true → Rs3 y = true ∧ rk3 y = rk' y := fun y hy hy2 => by
              have g := gR y hy hy2
              have := m4 y hy g.1
              exact ⟨this.1, this.2.trans g.2⟩
            have exto : Rs3 o = true ∧ rk3 o = rk (q i) + 1 := by
              have := m4 o ho (by simp)
              exact ⟨this.1, this.2.trans (if_pos rfl)⟩
            refine ih' (s3, (rk3, Rs3), q3, sz3) ⟨kp3, m2, m3, ?_, fun y hy hy2 => ?_, ⟨Nat.le_trans g6.1 m6, fun j hj => ?_, fun j hj hj' => ?_⟩, fun o' ho' hW hov hz => ?_, fun o' ho' h16 hz => ?_⟩
            · intro o' ho' hW hR
              have hR : Rs3 o' = true := hR
              show lf o' ≤ 0 ∧ ∀ p, p < 16 → isP T a p = true → pd p o' ≠ 0 → Rs3 p = true ∧ rk3 p ≤ rk3 o' + 1
              by_cases w : o' = o
              · subst w
                exact ⟨z, fun p hp hP hpd => by have := m8 p hp hP hpd; rw [exto.2]; exact ⟨this.1, by omega⟩⟩
              · have e := m5 o' ho' hW
                rw [hR] at e
                have hR' : Rs' o' = true := by simpa [w] using e.symm
                have c4 := g4 o' ho' hW hR'
                refine ⟨c4.1, fun p hp hP hpd => ?_⟩
                have := c4.2 p hp hP hpd
                have x1 := ext p hp this.1
                have x2 := ext o' ho' hR'
                exact ⟨x1.1, by omega⟩
            · have := g5 y hy hy2
              have x := ext y hy this.1
              exact ⟨x.1, x.2.trans this.2⟩
            · show q3 j = q j
              rw [m7 j (by omega)]; exact g6.2.1 j hj
            · show rk (q i) ≤ rk3 (q3 j)
              rcases Nat.lt_or_ge j sz' with w | w
              · rw [m7 j w]
                have := g3.1.1 j w
                rw [(ext _ this.1 this.2.2).2]
                exact g6.2.2 j hj w
              · rw [m9 j w hj']; omega
            · show Rs3 o' = true ∧ rk3 o' ≤ rk (q i) + 1
              by_cases w : o' = o
              · subst w; exact ⟨exto.1, by omega⟩
              · have := g7 o' ho' hW hov (by rcases hz with hz | hz; exact Or.inl (by omega); exact Or.inr hz)
                have x := ext o' ho' this.1
                exact ⟨x.1, by omega⟩
            · show Rs3 o' = false
              have hw := ((hopt o').mp hz).2.1
              rw [m5 o' h16 hw]
              have w : o' ≠ o := by omega
              have := g8 o' (by omega) h16 hz
              simp [w, this]
          · refine k2 _ (fun j => decide (j = o) || Rs' j) (fun y => if y = o then rk (q i) + 1 else rk' y) o kp ho k4 (by simp) (by omega) hB2 fun x hx hR hrx k hlev => ?_
            have hR : (decide (x = o) || Rs' x) = true := hR
            show (if x = o then rk (q i) + 1 else rk' x) ≤ k
            have hrx : (if x = o then rk (q i) + 1 else rk' x) ≤ (if o = o then rk (q i) + 1 else rk' o) := hrx
            rw [if_pos (show o = o from rfl)] at hrx
            rcases Nat.lt_or_ge (rk (q i)) k with w | w
            · omega
            · have hPr' : PrO T a ov rk' Rs' q' i := by
                intro j hj o' ho' hW hov
                have e := g6.2.1 j (by omega)
                have b := hB.1.1 j (by omega)
                rw [e] at hov
                have := hPr j hj o' ho' hW hov
                have x1 := g5 o' ho' this.1
                have x2 := g5 (q j) b.1 b.2.2
                rw [e]
                exact ⟨x1.1, by omega⟩
              have := lev_rk g3 hPr' g6.2.2 g4 k w x hx hlev
              have xo : x ≠ o := fun e => by rw [e, hRo] at this; cases this.1
              rw [if_neg xo]; exact this.2
      · show rk (q i) ≤ rk (q j)
        rcases Nat.lt_or_ge i j with z | z
        · exact hB.2.2.2.1 i j z hj'
        · have : j = i := by omega
          subst this; exact Nat.le_refl _
      · rcases hz with hz | hz
        · exact absurd hz (Nat.not_lt_zero _)
        · exact ⟨hz, hB.2.2.2.2.2 o' ho' hW hz⟩
end find
