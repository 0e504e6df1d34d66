/-! CONTRACTS: the cut's search, nearest first -/
section bfs
variable {Θ : Th} {d : Nat} {σ : Mem} {Q : Po} {l : Nat} {T : Nat → Bool} {a : Nat → Int} {ov : Nat → Nat → Bool} {lf : Nat → Int} {pd : Nat → Nat → Int}
/-- all stays but the queue, who came from where, and what is reached -/
def Kp (σ σ' : Mem) : Prop := Fr [86, 90, 91] σ σ' ∧ σ'.2.2 86 = σ.2.2 86 ∧ ∀ j, j ≠ 8 → σ'.1 86 j = σ.1 86 j
theorem Kp.rfl : Kp σ σ := ⟨Fr.rfl, Eq.refl _, fun _ _ => Eq.refl _⟩
theorem Kp.w0 {s : Mem} {k : Nat} {v : Int32} (h : Kp σ s) : Kp σ (sI s 90 k v) := ⟨h.1.I (by simp), h.2.1, fun j hj => by rw [sI_ne (by decide)]; exact h.2.2 j hj⟩
theorem Kp.w1 {s : Mem} {k : Nat} {v : Int32} (h : Kp σ s) : Kp σ (sI s 91 k v) := ⟨h.1.I (by simp), h.2.1, fun j hj => by rw [sI_ne (by decide)]; exact h.2.2 j hj⟩
theorem Kp.w8 {s : Mem} {v : Int32} (h : Kp σ s) : Kp σ (sI s 86 8 v) := ⟨h.1.I (by simp), h.2.1, fun j hj => by rw [sI_of _ _ (by omega)]; exact h.2.2 j hj⟩
theorem CuS_kp {σ σ' : Mem} (h : CuS l T a ov lf pd σ) (hk : Kp σ σ') : CuS l T a ov lf pd σ' := by
  obtain ⟨⟨hl, h1⟩, ⟨h2, h3⟩, h4, h5, h6⟩ := h
  obtain ⟨k1, k2, k3⟩ := hk
  refine ⟨⟨hl, by rw [k2]; exact h1⟩, ⟨by rw [k3 6 (by decide)]; exact h2, by rw [k3 7 (by decide)]; exact h3⟩, fun c hc k => by rw [(k1 88 (by decide)).1]; exact h4 c hc k, fun p o hp ho => by rw [(k1 89 (by decide)).1]; exact h5 p o hp ho, fun c hc hT => ?_⟩
  rw [(k1 l (by rcases hl with rfl | rfl <;> decide)).1]; exact h6 c hc hT
/-- where each that is reached came from, how far it is -/
def Bf2 (T : Nat → Bool) (a : Nat → Int) (ov : Nat → Nat → Bool) (lf : Nat → Int) (pd : Nat → Nat → Int) (rk : Nat → Nat) (Rs : Nat → Bool) (cf : Nat → Int32) (x : Nat) : Prop :=
  (isP T a x = true ∧ cf x = -1 ∧ 0 < lf x ∧ rk x = 0) ∨ (isP T a x = true ∧ ∃ o, o < 16 ∧ cf x = nI o ∧ isW T a o = true ∧ Rs o = true ∧ pd x o ≠ 0 ∧ rk x = rk o + 1) ∨ (isW T a x = true ∧ ∃ p, p < 16 ∧ cf x = nI p ∧ isP T a p = true ∧ Rs p = true ∧ ov x p = true ∧ rk x = rk p + 1)
def Bf0 (T : Nat → Bool) (a : Nat → Int) (ov : Nat → Nat → Bool) (lf : Nat → Int) (pd : Nat → Nat → Int) (rk : Nat → Nat) (Rs : Nat → Bool) (q : Nat → Nat) (sz ρ : Nat) (cf : Nat → Int32) : Prop :=
  ((∀ j, j < sz → q j < 16 ∧ isP T a (q j) = true ∧ Rs (q j) = true) ∧ (∀ i j, i < j → j < sz → q i ≠ q j) ∧ ∀ p, p < 16 → isP T a p = true → Rs p = true → ∃ j, j < sz ∧ q j = p) ∧
  (∀ x, x < 16 → Rs x = true → Bf2 T a ov lf pd rk Rs cf x) ∧ (∀ p, p < 16 → isP T a p = true → 0 < lf p → Rs p = true ∧ rk p = 0) ∧
  (∀ i j, i < j → j < sz → rk (q i) ≤ rk (q j)) ∧ (∀ j, j < sz → rk (q j) ≤ ρ + 2) ∧ ∀ o, o < 16 → isW T a o = true → Rs o = true → rk o ≤ ρ + 1
def Cel (Rs : Nat → Bool) (q : Nat → Nat) (sz : Nat) (s : Mem) : Prop := s.1 86 8 = sX Rs ∧ ∀ j, j < sz → s.1 91 j = nI (q j)
theorem Bf0_sz {rk : Nat → Nat} {Rs : Nat → Bool} {q : Nat → Nat} {sz ρ : Nat} {cf : Nat → Int32} (h : Bf0 T a ov lf pd rk Rs q sz ρ cf) : sz ≤ 16 := holes (fun j hj => (h.1.1 j hj).1) h.1.2.1
theorem Bf0_fresh {rk : Nat → Nat} {Rs : Nat → Bool} {q : Nat → Nat} {sz ρ : Nat} {cf : Nat → Int32} (h : Bf0 T a ov lf pd rk Rs q sz ρ cf) {p : Nat} (hp : p < 16) (hR : Rs p = false) : sz < 16 := by
  have hq : ∀ j, j < sz → q j ≠ p := fun j hj e => by have := (h.1.1 j hj).2.2; rw [e, hR] at this; cases this
  have := holes (m := 16) (n := sz + 1) (f := fun j => if j < sz then q j else p) (fun j _ => by
    show (if j < sz then q j else p) < 16
    split
    · rename_i z; exact (h.1.1 j z).1
    · exact hp) (fun i j hij hj => by
    show (if i < sz then q i else p) ≠ (if j < sz then q j else p)
    rw [if_pos (show i < sz by omega)]
    split
    · rename_i z; exact h.1.2.1 i j hij z
    · exact hq i (by omega))
  omega
theorem c44 (hC : CuS l T a ov lf pd σ) (hb : ∀ c, c < 16 → isP T a c = true ∨ isW T a c = true → 0 ≤ lf c ∧ lf c ≤ 1048576)
    (k : ∀ σ' rk Rs q sz, Kp σ σ' → Cel Rs q sz σ' → Bf0 T a ov lf pd rk Rs q sz 0 (σ'.1 90) → (∀ o, o < 16 → isW T a o = true → Rs o = false) → Q (some (.int (nI sz))) σ') : Cm Θ d 44 [.ref 86] σ Q := by
  refine K44 (B44_0 ?_)
  -- behind c payers: those of them that have something left
  refine loopS (α := Mem × (Nat → Nat) × Nat) (I := fun c s => Kp σ s.1 ∧ s.2.2 ≤ c ∧ Cel (fun x => decide (x < c) && (isP T a x && decide (0 < lf x))) s.2.1 s.2.2 s.1 ∧ (∀ j, j < s.2.2 → s.2.1 j < c ∧ isP T a (s.2.1 j) = true ∧ 0 < lf (s.2.1 j)) ∧ (∀ i j, i < j → j < s.2.2 → s.2.1 i < s.2.1 j) ∧ ∀ x, x < c → isP T a x = true → 0 < lf x → (∃ j, j < s.2.2 ∧ s.2.1 j = x) ∧ s.1.1 90 x = -1)
    (P := fun c s => G Θ d 44 9 [some (.ref 86), some (.int (nI s.2.2)), some (.int (nI c))] [] s.1 Q) 16 ?_ ?_ (sI σ 86 8 0, fun _ => 0, 0) ⟨Kp.rfl.w8, Nat.zero_le _, ⟨?_, fun j hj => absurd hj (Nat.not_lt_zero _)⟩, fun j hj => absurd hj (Nat.not_lt_zero _), fun i j _ hj => absurd hj (Nat.not_lt_zero _), fun x hx => absurd hx (Nat.not_lt_zero _)⟩
  · rintro ⟨s, q, sz⟩ ⟨hk, hs, hc, h1, h2, h3⟩
    refine B44_9 ⟨fun _ => ?_, fun h => absurd (by decide) h⟩
    refine k s (fun _ => 0) (fun x => isP T a x && decide (0 < lf x)) q sz hk ⟨?_, hc.2⟩ ⟨⟨fun j hj => ?_, fun i j hij hj => ?_, fun p hp hP hR => ?_⟩, fun x hx hR => ?_, fun p hp hP hl => ?_, fun _ _ _ _ => Nat.le_refl _, fun _ _ => Nat.zero_le _, fun _ _ _ _ => Nat.zero_le _⟩ (fun o ho hW => ?_)
    · rw [hc.1]; exact sX_congr fun x hx => by simp [hx]
    · have := h1 j hj
      exact ⟨this.1, this.2.1, by simp [this.2.1, this.2.2]⟩
    · have : q i < q j := h2 i j hij hj
      omega
    · simp only [hP, Bool.true_and, decide_eq_true_eq] at hR
      exact (h3 p hp hP hR).1
    · simp only [Bool.and_eq_true, decide_eq_true_eq] at hR
      exact Or.inl ⟨hR.1, (h3 x hx hR.1 hR.2).2, hR.2, rfl⟩
    · exact ⟨by simp [hP, hl], rfl⟩
    · cases q : isP T a o
      · simp
      · rw [isPW q] at hW; cases hW
  · rintro c ⟨s, q, sz⟩ hc16 ⟨hk, hs, hc, h1, h2, h3⟩ ih
    have hC' := CuS_kp hC hk
    have v := vp_in_nI hc16 (by decide)
    refine B44_9 ⟨fun h => absurd h (nI_ge hc16 (by decide)), fun _ => ?_⟩
    have e6 : s.1 86 6 = sX (isP T a) := hC'.2.1.1
    show (((s.1 86 6 >>> (nI c &&& 31)) &&& 1) = 0 → _) ∧ _
    rw [e6, sX_shr _ hc16, nI_clamp (by omega), nI_1]
    refine ⟨fun h => ?_, fun h => ⟨v, ?_⟩⟩
    · rw [b01_0] at h
      refine ih (s, q, sz) ⟨hk, by show sz ≤ c + 1; have : sz ≤ c := hs; omega, ⟨hc.1.trans (sX_up_f (by simp [h])), hc.2⟩, fun j hj => ?_, h2, fun x hx hP hl => ?_⟩
      · have := h1 j hj; exact ⟨by omega, this.2⟩
      · rcases Nat.lt_or_ge x c with z | z
        · exact h3 x z hP hl
        · have : x = c := by omega
          subst this; rw [h] at hP; cases hP
    · rw [b01_n] at h
      have b := hb c hc16 (Or.inl h)
      show (s.1 88 c ≤ 0 → _) ∧ _
      rw [hC'.2.2.1 c hc16 (Or.inl h), iI_0, iI_le (by omega) (by omega) (by omega) (by omega)]
      refine ⟨fun h5 => ?_, fun h5 => ⟨vp_in_nI (show sz < 16 by have : sz ≤ c := hs; omega) (by decide), v, ?_⟩⟩
      · refine ih (s, q, sz) ⟨hk, by show sz ≤ c + 1; have : sz ≤ c := hs; omega, ⟨hc.1.trans (sX_up_f (by simp; omega)), hc.2⟩, fun j hj => ?_, h2, fun x hx hP hl => ?_⟩
        · have := h1 j hj; exact ⟨by omega, this.2⟩
        · rcases Nat.lt_or_ge x c with z | z
          · exact h3 x z hP hl
          · have : x = c := by omega
            subst this; omega
      · have hsc : sz ≤ c := hs
        show G Θ d 44 9 [some (.ref 86), some (.int (nI sz + 1)), some (.int (nI (c + 1)))] [] (sI (sI (sI s 91 (nI sz).toNatClampNeg (nI c)) 90 c (-1)) 86 8 ((sI (sI s 91 (nI sz).toNatClampNeg (nI c)) 90 c (-1)).1 86 8 ||| ((1 : Int32) <<< (nI c &&& 31)))) Q
        rw [nI_clamp (by omega), nI_1]
        refine ih (_, fun j => if j = sz then c else q j, sz + 1) ⟨hk.w1.w0.w8, by show sz + 1 ≤ c + 1; omega, ⟨?_, fun j hj => ?_⟩, fun j hj => ?_, fun i j hij hj => ?_, fun x hx hP hl => ?_⟩
        · show (sI _ 86 8 _).1 86 8 = _
          rw [sI_at, sI_ne (by decide), sI_ne (by decide)]
          show s.1 86 8 ||| _ = _
          rw [hc.1]; exact sX_up_t hc16 (by simp [h]; omega)
        · show (sI (sI (sI s 91 sz (nI c)) 90 c (-1)) 86 8 _).1 91 j = nI (if j = sz then c else q j)
          rw [sI_ne (by decide), sI_ne (by decide)]
          by_cases z : j = sz
          · subst z; rw [sI_at, if_pos rfl]
          · rw [sI_of _ _ (by omega), if_neg z]
            exact hc.2 j (by have hj : j < sz + 1 := hj; show j < sz; omega)
        · show (if j = sz then c else q j) < c + 1 ∧ isP T a (if j = sz then c else q j) = true ∧ 0 < lf (if j = sz then c else q j)
          by_cases z : j = sz
          · rw [if_pos z]; exact ⟨by omega, h, by omega⟩
          · rw [if_neg z]
            have := h1 j (by have hj : j < sz + 1 := hj; show j < sz; omega)
            exact ⟨by have : q j < c := this.1; omega, this.2⟩
        · show (if i = sz then c else q i) < (if j = sz then c else q j)
          have hj : j < sz + 1 := hj
          rw [if_neg (by omega)]
          by_cases z : j = sz
          · rw [if_pos z]; exact (h1 i (by show i < sz; omega)).1
          · rw [if_neg z]; exact h2 i j hij (by show j < sz; omega)
        · have hx : x < c + 1 := hx
          rcases Nat.lt_or_ge x c with z | z
          · obtain ⟨⟨j, hj, e⟩, e2⟩ := h3 x z hP hl
            have hj : j < sz := hj
            refine ⟨⟨j, by show j < sz + 1; omega, by show (if j = sz then c else q j) = x; rw [if_neg (by omega)]; exact e⟩, ?_⟩
            show (sI (sI (sI s 91 sz (nI c)) 90 c (-1)) 86 8 _).1 90 x = -1
            rw [sI_ne (by decide), sI_of _ _ (by omega), sI_ne (by decide)]; exact e2
          · have hxc : x = c := by omega
            refine ⟨⟨sz, by show sz < sz + 1; omega, by show (if sz = sz then c else q sz) = x; rw [if_pos rfl, hxc]⟩, ?_⟩
            show (sI (sI (sI s 91 sz (nI c)) 90 c (-1)) 86 8 _).1 90 x = -1
            rw [sI_ne (by decide), hxc, sI_at]
  · show (sI σ 86 8 0).1 86 8 = _
    rw [sI_at]; exact sX_up_0 _
theorem Bf2_mono {rk rk' : Nat → Nat} {Rs Rs' : Nat → Bool} {cf cf' : Nat → Int32} {x : Nat} (hR : ∀ y, y < 16 → Rs y = true → Rs' y = true ∧ rk' y = rk y) (hx : rk' x = rk x) (hc : cf' x = cf x) (h : Bf2 T a ov lf pd rk Rs cf x) : Bf2 T a ov lf pd rk' Rs' cf' x := by
  rcases h with ⟨h1, h2, h3, h4⟩ | ⟨h1, o, ho, h2, h3, h4, h5, h6⟩ | ⟨h1, p, hp, h2, h3, h4, h5, h6⟩
  · exact Or.inl ⟨h1, by rw [hc]; exact h2, h3, by rw [hx]; exact h4⟩
  · have := hR o ho h4
    exact Or.inr (Or.inl ⟨h1, o, ho, by rw [hc]; exact h2, h3, this.1, h5, by rw [hx, this.2]; exact h6⟩)
  · have := hR p hp h4
    exact Or.inr (Or.inr ⟨h1, p, hp, by rw [hc]; exact h2, h3, this.1, h5, by rw [hx, this.2]; exact h6⟩)
/-- payers that come back from an ower -/
theorem c45 {rk0 : Nat → Nat} {Rs0 : Nat → Bool} {q0 : Nat → Nat} {sz0 ρ o0 : Nat} (hC : CuS l T a ov lf pd σ) (hb : ∀ p o, p < 16 → o < 16 → 0 ≤ pd p o ∧ pd p o ≤ 1048576) (ho : o0 < 16) (hW : isW T a o0 = true) (hRo : Rs0 o0 = true) (hro : rk0 o0 = ρ + 1)
    (hcel : Cel Rs0 q0 sz0 σ) (hB : Bf0 T a ov lf pd rk0 Rs0 q0 sz0 ρ (σ.1 90))
    (k : ∀ σ' rk Rs q sz, Kp σ σ' → Cel Rs q sz σ' → Bf0 T a ov lf pd rk Rs q sz ρ (σ'.1 90) → (∀ y, y < 16 → Rs0 y = true → Rs y = true ∧ rk y = rk0 y) → (∀ y, y < 16 → isW T a y = true → Rs y = Rs0 y) → sz0 ≤ sz → (∀ j, j < sz0 → q j = q0 j) → (∀ p, p < 16 → isP T a p = true → pd p o0 ≠ 0 → Rs p = true ∧ rk p ≤ ρ + 2) → (∀ j, sz0 ≤ j → j < sz → rk (q j) = ρ + 2) → Q (some (.int (nI sz))) σ') :
    Cm Θ d 45 [.ref 86, .int (nI o0), .int (nI sz0)] σ Q := by
  refine K45 (B45_0 ?_)
  refine loopS (α := Mem × ((Nat → Nat) × (Nat → Bool)) × (Nat → Nat) × Nat) (I := fun c s => Kp σ s.1 ∧ Cel s.2.1.2 s.2.2.1 s.2.2.2 s.1 ∧ Bf0 T a ov lf pd s.2.1.1 s.2.1.2 s.2.2.1 s.2.2.2 ρ (s.1.1 90) ∧ (∀ y, y < 16 → Rs0 y = true → s.2.1.2 y = true ∧ s.2.1.1 y = rk0 y) ∧ (∀ y, y < 16 → isW T a y = true → s.2.1.2 y = Rs0 y) ∧ sz0 ≤ s.2.2.2 ∧ (∀ j, j < sz0 → s.2.2.1 j = q0 j) ∧ (∀ p, p < c → isP T a p = true → pd p o0 ≠ 0 → s.2.1.2 p = true ∧ s.2.1.1 p ≤ ρ + 2) ∧ ∀ j, sz0 ≤ j → j < s.2.2.2 → s.2.1.1 (s.2.2.1 j) = ρ + 2)
    (P := fun c s => G Θ d 45 5 [some (.ref 86), some (.int (nI o0)), none, some (.int (nI s.2.2.2)), some (.int (nI c)), none] [] s.1 Q) 16 ?_ ?_ (σ, (rk0, Rs0), q0, sz0) ⟨Kp.rfl, hcel, hB, fun y _ h => ⟨h, rfl⟩, fun y _ _ => rfl, Nat.le_refl _, fun _ _ => rfl, fun p hp => absurd hp (Nat.not_lt_zero _), fun j h h' => absurd h' (Nat.not_lt.mpr h)⟩
  · rintro ⟨s, ⟨rk, Rs⟩, q, sz⟩ ⟨h1, h2, h3, h4, h5, h6, h7, h8, h9⟩
    exact B45_5 ⟨fun _ => k s rk Rs q sz h1 h2 h3 h4 h5 h6 h7 h8 h9, fun h => absurd (by decide) h⟩
  · rintro c ⟨s, ⟨rk, Rs⟩, q, sz⟩ hc ⟨h1, h2, h3, h4, h5, h6, h7, h8, h9⟩ ih
    have h1 : Kp σ s := h1
    have h2 : Cel Rs q sz s := h2
    have h3 : Bf0 T a ov lf pd rk Rs q sz ρ (s.1 90) := h3
    have h4 : ∀ y, y < 16 → Rs0 y = true → Rs y = true ∧ rk y = rk0 y := h4
    have h5 : ∀ y, y < 16 → isW T a y = true → Rs y = Rs0 y := h5
    have h6 : sz0 ≤ sz := h6
    have h7 : ∀ j, j < sz0 → q j = q0 j := h7
    have h8 : ∀ p, p < c → isP T a p = true → pd p o0 ≠ 0 → Rs p = true ∧ rk p ≤ ρ + 2 := h8
    have h9 : ∀ j, sz0 ≤ j → j < sz → rk (q j) = ρ + 2 := h9
    have hC' := CuS_kp hC h1
    have v := vp_in_nI hc (by decide)
    have hsz := Bf0_sz h3
    -- nothing to do for c
    have skip : (isP T a c = true → pd c o0 ≠ 0 → Rs c = true ∧ rk c ≤ ρ + 2) → G Θ d 45 5 [some (.ref 86), some (.int (nI o0)), none, some (.int (nI sz)), some (.int (nI (c + 1))), none] [] s Q := by
      intro h
      refine ih (s, (rk, Rs), q, sz) ⟨h1, h2, h3, h4, h5, h6, h7, fun p hp hP hpd => ?_, h9⟩
      rcases Nat.lt_or_ge p c with z | z
      · exact h8 p z hP hpd
      · have : p = c := by omega
        subst this; exact h hP hpd
    have e6 : s.1 86 6 = sX (isP T a) := hC'.2.1.1
    have e8 : s.1 86 8 = sX Rs := h2.1
    have e89 := hC'.2.2.2.1 c o0 hc ho
    have bpd := hb c o0 hc ho
    refine B45_5 ⟨fun h => absurd h (nI_ge hc (by decide)), fun _ => ?_⟩
    show (((s.1 86 6 >>> (nI c &&& 31)) &&& 1) = 0 → _) ∧ (¬ ((s.1 86 6 >>> (nI c &&& 31)) &&& 1) = 0 → (¬ ((s.1 86 8 >>> (nI c &&& 31)) &&& 1) = 0 → _) ∧ (((s.1 86 8 >>> (nI c &&& 31)) &&& 1) = 0 → _))
    rw [e6, e8, sX_shr _ hc, sX_shr _ hc, nI_1]
    refine ⟨fun h => ?_, fun h => ⟨fun h' => ?_, fun h' => ⟨?_, ?_⟩⟩⟩
    · rw [b01_0] at h
      exact skip fun hP => by rw [h] at hP; cases hP
    · rw [b01_n] at h h'
      refine skip fun _ _ => ⟨h', ?_⟩
      obtain ⟨j, hj, e⟩ := h3.1.2.2 c hc h h'
      rw [← e]; exact h3.2.2.2.2.1 j hj
    · rw [ix16]; exact vp_in_nI (show 16 * c + o0 < 256 by omega) (by decide)
    · rw [b01_n] at h
      rw [b01_0] at h'
      show (s.1 89 (nI c * 16 + nI o0).toNatClampNeg ≤ 0 → _) ∧ (¬ s.1 89 (nI c * 16 + nI o0).toNatClampNeg ≤ 0 → (16 ≤ nI sz → _) ∧ (¬ 16 ≤ nI sz → vp_in (nI sz) 16 ∧ vp_in (nI c) 16 ∧ G Θ d 45 5 [some (.ref 86), some (.int (nI o0)), none, some (.int (nI sz + 1)), some (.int (nI (c + 1))), none] [] (sI (sI (sI s 91 (nI sz).toNatClampNeg (nI c)) 90 (nI c).toNatClampNeg (nI o0)) 86 8 ((sI (sI s 91 (nI sz).toNatClampNeg (nI c)) 90 (nI c).toNatClampNeg (nI o0)).1 86 8 ||| ((1 : Int32) <<< (nI c &&& 31)))) Q))
      rw [ix16, nI_clamp (by omega), nI_clamp (by omega), nI_clamp (by omega), e89, iI_0, iI_le (by omega) (by omega) (by omega) (by omega)]
      have hs16 := Bf0_fresh h3 hc h'
      refine ⟨fun z => skip fun _ hne => by omega, fun z => ⟨fun z2 => absurd z2 (nI_ge hs16 (by decide)), fun _ => ⟨vp_in_nI hs16 (by decide), v, ?_⟩⟩⟩
      rw [nI_1]
      have hqc : ∀ j, j < sz → q j ≠ c := fun j hj e => by have := (h3.1.1 j hj).2.2; rw [e, h'] at this; cases this
      have hoc : o0 ≠ c := fun e => by rw [e] at hW; rw [isPW h] at hW; cases hW
      have hRo' : Rs o0 = true := (h4 o0 ho hRo).1
      have hro' : rk o0 = ρ + 1 := by rw [(h4 o0 ho hRo).2]; exact hro
      -- the new ghosts
      have gR : ∀ y, y < 16 → Rs y = true → (decide (y = c) || Rs y) = true ∧ (if y = c then ρ + 2 else rk y) = rk y := fun y hy hy2 => by
        have : y ≠ c := fun e => by rw [e, h'] at hy2; cases hy2
        exact ⟨by simp [hy2], if_neg this⟩
      refine ih (_, (fun y => if y = c then ρ + 2 else rk y, fun y => decide (y = c) || Rs y), fun j => if j = sz then c else q j, sz + 1) ⟨h1.w1.w0.w8, ⟨?_, fun j hj => ?_⟩, ⟨⟨fun j hj => ?_, fun i j hij hj => ?_, fun p hp hP hR => ?_⟩, fun x hx hR => ?_, fun p hp hP hl => ?_, fun i j hij hj => ?_, fun j hj => ?_, fun o hon hoW hR => ?_⟩, fun y hy hy2 => ?_, fun y hy hyW => ?_, ?_, fun j hj => ?_, fun p hp hP hpd => ?_, fun j hj hj' => ?_⟩
      · show (sI _ 86 8 _).1 86 8 = _
        rw [sI_at, sI_ne (by decide), sI_ne (by decide), e8, sX_add1 _ hc]
        exact sX_congr fun x _ => Bool.or_comm _ _
      · show (sI (sI (sI s 91 sz (nI c)) 90 c (nI o0)) 86 8 _).1 91 j = nI (if j = sz then c else q j)
        rw [sI_ne (by decide), sI_ne (by decide)]
        by_cases z : j = sz
        · subst z; rw [sI_at, if_pos rfl]
        · rw [sI_of _ _ (by omega), if_neg z]
          exact h2.2 j (by have hj : j < sz + 1 := hj; show j < sz; omega)
      · show (if j = sz then c else q j) < 16 ∧ isP T a (if j = sz then c else q j) = true ∧ (decide ((if j = sz then c else q j) = c) || Rs (if j = sz then c else q j)) = true
        by_cases z : j = sz
        · rw [if_pos z]; exact ⟨hc, h, by simp⟩
        · rw [if_neg z]
          have := h3.1.1 j (by have hj : j < sz + 1 := hj; show j < sz; omega)
          exact ⟨this.1, this.2.1, by rw [this.2.2]; simp⟩
      · show (if i = sz then c else q i) ≠ (if j = sz then c else q j)
        have hj : j < sz + 1 := hj
        rw [if_neg (by omega)]
        by_cases z : j = sz
        · rw [if_pos z]; exact hqc i (by omega)
        · rw [if_neg z]; exact h3.1.2.1 i j hij (by show j < sz; omega)
      · have hR : (decide (p = c) || Rs p) = true := hR
        by_cases z : p = c
        · exact ⟨sz, by show sz < sz + 1; omega, by show (if sz = sz then c else q sz) = p; rw [if_pos rfl, z]⟩
        · simp only [z, decide_false, Bool.false_or] at hR
          obtain ⟨j, hj, e⟩ := h3.1.2.2 p hp hP hR
          have hj : j < sz := hj
          exact ⟨j, by show j < sz + 1; omega, by show (if j = sz then c else q j) = p; rw [if_neg (by omega)]; exact e⟩
      · have hR : (decide (x = c) || Rs x) = true := hR
        by_cases z : x = c
        · subst z
          refine Or.inr (Or.inl ⟨h, o0, ho, ?_, hW, (gR o0 ho hRo').1, by omega, ?_⟩)
          · show (sI (sI (sI s 91 sz (nI x)) 90 x (nI o0)) 86 8 _).1 90 x = nI o0
            rw [sI_ne (by decide), sI_at]
          · show (if x = x then ρ + 2 else rk x) = (if o0 = x then ρ + 2 else rk o0) + 1
            rw [if_pos rfl, if_neg hoc, hro']
        · simp only [z, decide_false, Bool.false_or] at hR
          refine Bf2_mono gR (if_neg z) ?_ (h3.2.1 x hx hR)
          show (sI (sI (sI s 91 sz (nI c)) 90 c (nI o0)) 86 8 _).1 90 x = s.1 90 x
          rw [sI_ne (by decide), sI_of _ _ (by omega), sI_ne (by decide)]
      · have := h3.2.2.1 p hp hP hl
        have g := gR p hp this.1
        exact ⟨g.1, g.2.trans this.2⟩
      · show (if (if i = sz then c else q i) = c then ρ + 2 else rk (if i = sz then c else q i)) ≤ (if (if j = sz then c else q j) = c then ρ + 2 else rk (if j = sz then c else q j))
        have hj : j < sz + 1 := hj
        rw [if_neg (show ¬ i = sz by omega), if_neg (hqc i (by omega))]
        by_cases z : j = sz
        · rw [if_pos z, if_pos rfl]; exact h3.2.2.2.2.1 i (by show i < sz; omega)
        · rw [if_neg z, if_neg (hqc j (by omega))]
          exact h3.2.2.2.1 i j hij (by show j < sz; omega)
      · show (if (if j = sz then c else q j) = c then ρ + 2 else rk (if j = sz then c else q j)) ≤ ρ + 2
        have hj : j < sz + 1 := hj
        by_cases z : j = sz
        · rw [if_pos z, if_pos rfl]; exact Nat.le_refl _
        · rw [if_neg z, if_neg (hqc j (by omega))]
          exact h3.2.2.2.2.1 j (by show j < sz; omega)
      · have hR : (decide (o = c) || Rs o) = true := hR
        have z : o ≠ c := fun e => by rw [e] at hoW; rw [isPW h] at hoW; cases hoW
        simp only [z, decide_false, Bool.false_or] at hR
        show (if o = c then ρ + 2 else rk o) ≤ ρ + 1
        rw [if_neg z]; exact h3.2.2.2.2.2 o hon hoW hR
      · have := h4 y hy hy2
        have g := gR y hy this.1
        exact ⟨g.1, g.2.trans this.2⟩
      · have z : y ≠ c := fun e => by rw [e] at hyW; rw [isPW h] at hyW; cases hyW
        show (decide (y = c) || Rs y) = Rs0 y
        rw [← h5 y hy hyW]; simp [z]
      · show sz0 ≤ sz + 1
        have : sz0 ≤ sz := h6
        omega
      · show (if j = sz then c else q j) = q0 j
        have : sz0 ≤ sz := h6
        rw [if_neg (by omega)]; exact h7 j hj
      · show (decide (p = c) || Rs p) = true ∧ (if p = c then ρ + 2 else rk p) ≤ ρ + 2
        by_cases z : p = c
        · rw [if_pos z]; exact ⟨by simp [z], Nat.le_refl _⟩
        · have := h8 p (by have hp : p < c + 1 := hp; omega) hP hpd
          rw [if_neg z]
          exact ⟨by rw [show Rs p = true from this.1]; simp, this.2⟩
      · show (if (if j = sz then c else q j) = c then ρ + 2 else rk (if j = sz then c else q j)) = ρ + 2
        have hj' : j < sz + 1 := hj'
        by_cases z : j = sz
        · rw [if_pos z, if_pos rfl]
        · rw [if_neg z, if_neg (hqc j (by omega))]
          exact h9 j hj (by show j < sz; omega)
end bfs
