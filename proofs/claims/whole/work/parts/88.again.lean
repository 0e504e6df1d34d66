/-! CONTRACTS: the fewest without which none clash: the class's search -/
theorem Rd_fr {r : Nat} {B : Bk} {σ σ' : Mem} {ls : List Nat} (h : Rd r B σ) (hf : Fr ls σ σ') (hl : 12 ∉ ls ∧ 16 ∉ ls ∧ 17 ∉ ls ∧ 22 ∉ ls ∧ 26 ∉ ls ∧ 27 ∉ ls) : Rd r B σ' := by
  obtain ⟨hr, h1, h2, h3, h4⟩ := h
  have e0 : σ'.1 r = σ.1 r := (hf r (by rcases hr with rfl | rfl; exact hl.1; exact hl.2.2.2.1)).1
  have e4 : σ'.1 (r + 4) = σ.1 (r + 4) := (hf (r + 4) (by rcases hr with rfl | rfl; exact hl.2.1; exact hl.2.2.2.2.1)).1
  have e5 : σ'.1 (r + 5) = σ.1 (r + 5) := (hf (r + 5) (by rcases hr with rfl | rfl; exact hl.2.2.1; exact hl.2.2.2.2.2)).1
  exact ⟨hr, by rw [e0]; exact h1, h2, fun c hc => by rw [e5]; exact h3 c hc, fun c hc => by rw [e4]; exact h4 c hc⟩
theorem OrC_fr {o : Nat} {D : Nat → Nat → Bool} {σ σ' : Mem} {ls : List Nat} (h : OrC o D σ) (hf : Fr ls σ σ') (hl : 7 ∉ ls ∧ 8 ∉ ls ∧ 84 ∉ ls ∧ 85 ∉ ls) : OrC o D σ' := by
  obtain ⟨ho, h1⟩ := h
  have e1 : σ'.1 (o + 1) = σ.1 (o + 1) := (hf (o + 1) (by rcases ho with rfl | rfl; exact hl.1; exact hl.2.2.1)).1
  have e2 : σ'.1 (o + 2) = σ.1 (o + 2) := (hf (o + 2) (by rcases ho with rfl | rfl; exact hl.2.1; exact hl.2.2.2)).1
  exact ⟨ho, fun a ha => by rw [e1, e2]; exact h1 a ha⟩
def clE (D : Nat → Nat → Bool) (g : Nat → Nat) (a b : Nat) : Bool := decide (0 < gp D g a b)
theorem clE_s (D : Nat → Nat → Bool) (g : Nat → Nat) (a b : Nat) : clE D g a b = clE D g b a := by unfold clE gp; rw [Nat.add_comm]
theorem clE_i (D : Nat → Nat → Bool) (g : Nat → Nat) (a : Nat) : clE D g a a = false := by
  unfold clE gp gO
  rw [if_neg (fun h => absurd h.2 (Nat.lt_irrefl _))]; rfl
/-- the covers between some and some more -/
def Btw (n : Nat) (E : Nat → Nat → Bool) (rs tk : Nat → Bool) (s : Nat) : Prop := s < 2 ^ n ∧ cvr n E s ∧ (∀ c, c < 16 → tk c = true → s.testBit c = true) ∧ ∀ c, c < 16 → s.testBit c = true → tk c = true ∨ rs c = true
def TalM (f l k : Nat) (σ : Mem) : Prop := (σ.1 110 0 = nI f ∧ σ.1 110 1 = nI l ∧ σ.1 110 2 = nI k) ∧ f ≤ 17 ∧ l < 65536
section again
variable {Θ : Th} {d : Nat} {σ : Mem} {Q : Po} {n : Nat} {E : Nat → Nat → Bool} {rs tk : Nat → Bool}
theorem btw_part (hi : ∀ a, E a a = false) (h16 : n ≤ 16) {c : Nat} (hc : rs c = true) (hcn : c < n) (hd : ∀ c, rs c = true → tk c = false) (s : Nat) :
    (Btw n E rs tk s ↔ Btw n E (fun k => rs k && !decide (k = c)) (fun k => tk k || decide (k = c)) s ∨ Btw n E (fun k => (rs k && !decide (k = c)) && !(decide (k < n) && E c k)) (fun k => tk k || ((decide (k < n) && E c k) && rs k)) s) ∧
    ¬ (Btw n E (fun k => rs k && !decide (k = c)) (fun k => tk k || decide (k = c)) s ∧ Btw n E (fun k => (rs k && !decide (k = c)) && !(decide (k < n) && E c k)) (fun k => tk k || ((decide (k < n) && E c k) && rs k)) s) := by
  constructor
  · constructor
    · rintro ⟨h1, h2, h3, h4⟩
      by_cases q : s.testBit c = true
      · refine Or.inl ⟨h1, h2, fun k hk h => ?_, fun k hk h => ?_⟩
        · have h : (tk k || decide (k = c)) = true := h
          rw [Bool.or_eq_true, decide_eq_true_eq] at h
          rcases h with h | h
          · exact h3 k hk h
          · rw [h]; exact q
        · show (tk k || decide (k = c)) = true ∨ (rs k && !decide (k = c)) = true
          by_cases e : k = c
          · exact Or.inl (by simp [e])
          · rcases h4 k hk h with z | z
            · exact Or.inl (by simp [z])
            · exact Or.inr (by simp [z, e])
      · refine Or.inr ⟨h1, h2, fun k hk h => ?_, fun k hk h => ?_⟩
        · have h : (tk k || ((decide (k < n) && E c k) && rs k)) = true := h
          rw [Bool.or_eq_true] at h
          rcases h with h | h
          · exact h3 k hk h
          · simp only [Bool.and_eq_true, decide_eq_true_eq] at h
            exact (h2 c k hcn h.1.1 h.1.2).resolve_left q
        · show (tk k || ((decide (k < n) && E c k) && rs k)) = true ∨ ((rs k && !decide (k = c)) && !(decide (k < n) && E c k)) = true
          have e : k ≠ c := fun e => q (e ▸ h)
          rcases h4 k hk h with z | z
          · exact Or.inl (by simp [z])
          · cases y : (decide (k < n) && E c k)
            · exact Or.inr (by simp [z, e])
            · exact Or.inl (by simp [z])
    · rintro (⟨h1, h2, h3, h4⟩ | ⟨h1, h2, h3, h4⟩)
      · refine ⟨h1, h2, fun k hk h => h3 k hk (by show (tk k || decide (k = c)) = true; simp [h]), fun k hk h => ?_⟩
        have := h4 k hk h
        have this : (tk k || decide (k = c)) = true ∨ (rs k && !decide (k = c)) = true := this
        rw [Bool.or_eq_true, Bool.and_eq_true, decide_eq_true_eq] at this
        rcases this with (z | z) | z
        · exact Or.inl z
        · exact Or.inr (by rw [z]; exact hc)
        · exact Or.inr z.1
      · refine ⟨h1, h2, fun k hk h => h3 k hk (by show (tk k || ((decide (k < n) && E c k) && rs k)) = true; simp [h]), fun k hk h => ?_⟩
        have := h4 k hk h
        have this : (tk k || ((decide (k < n) && E c k) && rs k)) = true ∨ ((rs k && !decide (k = c)) && !(decide (k < n) && E c k)) = true := this
        simp only [Bool.or_eq_true, Bool.and_eq_true] at this
        rcases this with (z | z) | z
        · exact Or.inl z
        · exact Or.inr z.2
        · exact Or.inr z.1.1
  · rintro ⟨⟨-, -, h3, -⟩, -, -, -, h4⟩
    have h1 : s.testBit c = true := h3 c (by omega) (by show (tk c || decide (c = c)) = true; simp)
    have h2 := h4 c (by omega) h1
    have h2 : (tk c || ((decide (c < n) && E c c) && rs c)) = true ∨ ((rs c && !decide (c = c)) && !(decide (c < n) && E c c)) = true := h2
    simp [hi c, hd c hc] at h2
theorem c35 (h16 : n ≤ 16) (hr : ∀ c, rs c = true → c < n) (hrow : ∀ a, a < n → σ.1 111 a = sX (fun b => decide (b < n) && E a b))
    (k0 : (∀ a b, rs a = true → rs b = true → E a b = false) → Q (some (.int (-1))) σ) (k : ∀ c, c < 16 → rs c = true → Q (some (.int (nI c))) σ) : Cm Θ (d + 1) 35 [.ref 110, .int (sX rs)] σ Q := by
  refine K35 (B35_0 ?_)
  refine loopS (α := Int × Nat) (I := fun i z => z.2 ≤ 16 ∧ ((z.1 = -1 ∧ z.2 = 0 ∧ ∀ a b, a < i → rs a = true → rs b = true → E a b = false) ∨ ∃ c : Nat, z.1 = c ∧ c < 16 ∧ rs c = true)) (P := fun i z => G Θ (d + 1) 35 7 [some (.ref 110), some (.int (sX rs)), some (.int (iI z.1)), some (.int (nI z.2)), some (.int (nI i))] [] σ Q) 16 ?_ ?_ (-1, 0) ⟨by decide, Or.inl ⟨rfl, rfl, fun a b h => absurd h (Nat.not_lt_zero _)⟩⟩
  · intro ⟨z1, z2⟩ ⟨hz, h⟩
    refine B35_7 ⟨fun _ => ?_, fun h => absurd (by decide) h⟩
    show Q (some (.int (iI z1))) σ
    rcases h with ⟨h1, h2, h3⟩ | ⟨c, h1, h2, h3⟩
    · have h1 : z1 = -1 := h1
      rw [h1]; exact k0 fun a b ha hb => h3 a b (by have := hr a ha; omega) ha hb
    · have h1 : z1 = (c : Int) := h1
      rw [h1, ← iI_nI]; exact k c h2 h3
  · intro i ⟨z1, z2⟩ hi ⟨hz, h⟩ ih
    have hz : z2 ≤ 16 := hz
    have v := vp_in_nI (show i < 16 by omega) (by decide)
    refine B35_7 ⟨fun h => absurd h (nI_ge (b := 16) (by omega) (by decide)), fun _ => ?_⟩
    rw [sX_shr _ (by omega), nI_1, nI_clamp (by omega)]
    refine ⟨fun h2 => ?_, fun h2 => ⟨v, ?_⟩⟩
    · rw [b01_0] at h2
      refine ih (z1, z2) ⟨hz, ?_⟩
      rcases h with ⟨h1, h3, h4⟩ | h
      · refine Or.inl ⟨h1, h3, fun a b ha hra hrb => ?_⟩
        by_cases e : a = i
        · rw [e, h2] at hra; cases hra
        · exact h4 a b (by omega) hra hrb
      · exact Or.inr h
    · rw [b01_n] at h2
      have hin := hr i h2
      rw [hrow i hin, sX_and]
      have cm : cN 16 (fun k => (decide (k < n) && E i k) && rs k) ≤ 16 := cN_max _ 16
      refine ci (fun _ => c286) ⟨fun h3 => ?_, fun h3 => ⟨v, ?_⟩⟩
      · have h3 : nI (cN 16 (fun k => (decide (k < n) && E i k) && rs k)) ≤ nI z2 := h3
        rw [nI_leI (by omega) (by omega)] at h3
        refine ih (z1, z2) ⟨hz, ?_⟩
        rcases h with ⟨h1, h4, h5⟩ | h
        · refine Or.inl ⟨h1, h4, fun a b ha hra hrb => ?_⟩
          by_cases e : a = i
          · have h4 : z2 = 0 := h4
            have := cN_eq0 16 (by omega : cN 16 (fun k => (decide (k < n) && E i k) && rs k) = 0) b (by have := hr b hrb; omega)
            rw [e]
            simp [hr b hrb, hrb] at this; exact this
          · exact h5 a b (by omega) hra hrb
        · exact Or.inr h
      · rw [hrow i hin, sX_and]
        refine ci (fun _ => c286) ?_
        rw [iI_nI i]
        exact ih ((i : Int), cN 16 (fun k => (decide (k < n) && E i k) && rs k)) ⟨cm, Or.inr ⟨i, rfl, by omega, h2⟩⟩
theorem c36 {t f l k : Nat} (hM : TalM f l k σ) (ht : t < 65536) (hp : pc 16 t ≤ f)
    (K : ∀ σ', Fr [110] σ σ' → TalM (pc 16 t) (if pc 16 t < f then t else if t < l then t else l) (if pc 16 t < f then 1 else k + 1) σ' → Q none σ') : Cm Θ (d + 1) 36 [.ref 110, .int (nI t), .int (nI (pc 16 t))] σ Q := by
  obtain ⟨⟨h1, h2, h3⟩, h4, h5⟩ := hM
  have hpm : pc 16 t ≤ 16 := cN_max _ 16
  refine K36 (B36_0 ?_)
  rw [h1, nI_leI (by omega) (by omega)]
  refine ⟨fun h => ?_, fun h => ?_⟩
  · have e1 : (sI σ 110 2 (σ.1 110 2 + 1)).1 110 1 = nI l := by rw [sI_of _ _ (by omega)]; exact h2
    rw [e1, h3, nI_1]
    refine K _ ((Fr.rfl.I (by simp)).I (by simp)) ?_
    rw [if_neg (show ¬ pc 16 t < f by omega), if_neg (show ¬ pc 16 t < f by omega)]
    refine ⟨⟨?_, ?_, ?_⟩, by omega, by split <;> omega⟩
    · rw [sI_of _ _ (by omega), sI_of _ _ (by omega), h1]; congr 1; omega
    · rw [sI_at]
      by_cases q : t < l
      · rw [if_pos (nI_lt q (by omega)), if_pos q]
      · rw [if_neg (nI_nlt (by omega) (by omega)), if_neg q]
    · rw [sI_of _ _ (by omega), sI_at]
  · have e0 : (sI (sI (sI σ 110 0 (nI (pc 16 t))) 110 1 (nI t)) 110 2 0).1 110 2 = nI 0 := sI_at _ _ _ _
    rw [e0, nI_1]
    have e1 : (sI (sI (sI (sI σ 110 0 (nI (pc 16 t))) 110 1 (nI t)) 110 2 0) 110 2 (nI (0 + 1))).1 110 1 = nI t := by rw [sI_of _ _ (by omega), sI_of _ _ (by omega), sI_at]
    rw [e1]
    refine K _ (((((Fr.rfl.I (by simp)).I (by simp)).I (by simp)).I (by simp)).I (by simp)) ?_
    rw [if_pos (show pc 16 t < f by omega), if_pos (show pc 16 t < f by omega)]
    refine ⟨⟨?_, ?_, ?_⟩, by omega, ht⟩
    · rw [sI_of _ _ (by omega), sI_of _ _ (by omega), sI_of _ _ (by omega), sI_of _ _ (by omega), sI_at]
    · rw [sI_at, if_neg (nI_nlt (Nat.le_refl _) (by omega))]
    · rw [sI_of _ _ (by omega), sI_at]
/-- the search finds all covers between taken and taken with rest, as far as they count -/
theorem c34 (h16 : n ≤ 16) (hs : ∀ a b, E a b = E b a) (hi : ∀ a, E a a = false) : ∀ (m : Nat) (σ : Mem) (Q : Po) (rs tk : Nat → Bool) (X : Nat → Prop) (f l k dp : Nat), cN 16 rs ≤ m → cN 16 rs + dp ≤ 16 → (∀ c, rs c = true → c < n) → (∀ c, tk c = true → c < n) → (∀ c, rs c = true → tk c = false) →
    (∀ a b, a < n → b < n → E a b = true → rs a = false → tk a = false → tk b = true) → (∀ a, a < n → σ.1 111 a = sX (fun b => decide (b < n) && E a b)) → Tal 16 X f l k → TalM f l k σ → (∀ s, X s → ¬ Btw n E rs tk s) →
    (∀ σ' f' l' k', Fr [110] σ σ' → Tal 16 (fun s => X s ∨ Btw n E rs tk s) f' l' k' → TalM f' l' k' σ' → Q none σ') → Cm Θ (d + m + 2) 34 [.ref 110, .int (sX rs), .int (sX tk), .int (nI dp)] σ Q := by
  have h65 := pw_le h16
  intro m
  induction m with
  | zero =>
    intro σ Q rs tk X f l k dp hm hdp hr ht hd hx hrow hT hM hX K
    have hnone : ∀ c, rs c = false := fun c => by
      cases q : rs c
      · rfl
      · have := cN_eq0 16 (by omega : cN 16 rs = 0) c (by have := hr c q; omega)
        rw [q] at this; cases this
    have etk : (nS 16 tk).testBit = tk := nS_tb fun c h => by have := ht c h; omega
    have t2 : nS 16 tk < 2 ^ n := tb_lt h16 fun c h => by rw [etk] at h; exact ht c h
    have epc : cN 16 tk = pc 16 (nS 16 tk) := by unfold pc; rw [etk]
    have pm : pc 16 (nS 16 tk) ≤ 16 := cN_max _ 16
    refine K34 (B34_0 ?_)
    refine ci (fun _ => c286) ?_
    refine ⟨fun h => ?_, fun h => ⟨fun _ => ?_, fun z => absurd (show nI dp ≤ nI 16 from (nI_leI (by omega) (by omega)).mpr (by omega)) z⟩⟩
    · have h : ¬ nI (cN 16 tk) ≤ σ.1 110 0 := Int32.not_le.mpr h
      rw [hM.1.1, epc, nI_leI (by omega) (by have := hM.2.1; omega)] at h
      refine K σ f l k Fr.rfl (tal_skip hT fun s hY => ?_) hM
      have := pc_sub (n := 16) (s := nS 16 tk) (t := s) fun c hc h => hY.2.2.1 c hc (by rw [etk] at h; exact h)
      omega
    · have h : nI (cN 16 tk) ≤ σ.1 110 0 := Int32.not_lt.mp h
      rw [hM.1.1, epc, nI_leI (by omega) (by have := hM.2.1; omega)] at h
      refine c35 h16 hr hrow (fun hno => ⟨_, rfl, fun h2 => absurd h2 (by decide), fun _ => ?_⟩) (fun c hc h2 => by rw [hnone c] at h2; cases h2)
      rw [epc]
      refine c36 hM (by omega) h fun σ' hf hM' => ⟨rfl, K σ' _ _ _ hf ?_ hM'⟩
      refine tal_note hT ?_ (fun s hY => ?_) (fun q => hX _ q ?_) h
      · refine ⟨t2, fun a b ha hb hE => ?_, fun c _ h => by rw [etk]; exact h, fun c _ h => by rw [etk] at h; exact Or.inl h⟩
        rw [etk]
        cases q : tk a
        · exact Or.inr (hx a b ha hb hE (hnone a) q)
        · exact Or.inl rfl
      · have hsub : ∀ c, c < 16 → (nS 16 tk).testBit c = true → s.testBit c = true := fun c hc h => hY.2.2.1 c hc (by rw [etk] at h; exact h)
        exact ⟨pc_sub hsub, fun e => (set_ext (n := 16) (by omega) (by have := hY.1; omega) (pc_eq hsub (by omega))).symm⟩
      · refine ⟨t2, fun a b ha hb hE => ?_, fun c _ h => by rw [etk]; exact h, fun c _ h => by rw [etk] at h; exact Or.inl h⟩
        rw [etk]
        cases q : tk a
        · exact Or.inr (hx a b ha hb hE (hnone a) q)
        · exact Or.inl rfl
  | succ m ih =>
    intro σ Q rs tk X f l k dp hm hdp hr ht hd hx hrow hT hM hX K
    have etk : (nS 16 tk).testBit = tk := nS_tb fun c h => by have := ht c h; omega
    have t2 : nS 16 tk < 2 ^ n := tb_lt h16 fun c h => by rw [etk] at h; exact ht c h
    have epc : cN 16 tk = pc 16 (nS 16 tk) := by unfold pc; rw [etk]
    have pm : pc 16 (nS 16 tk) ≤ 16 := cN_max _ 16
    refine K34 (B34_0 ?_)
    refine ci (fun _ => c286) ?_
    refine ⟨fun h => ?_, fun h => ⟨fun _ => ?_, fun z => absurd (show nI dp ≤ nI 16 from (nI_leI (by omega) (by omega)).mpr (by omega)) z⟩⟩
    · have h : ¬ nI (cN 16 tk) ≤ σ.1 110 0 := Int32.not_le.mpr h
      rw [hM.1.1, epc, nI_leI (by omega) (by have := hM.2.1; omega)] at h
      refine K σ f l k Fr.rfl (tal_skip hT fun s hY => ?_) hM
      have := pc_sub (n := 16) (s := nS 16 tk) (t := s) fun c hc h => hY.2.2.1 c hc (by rw [etk] at h; exact h)
      omega
    · have h : nI (cN 16 tk) ≤ σ.1 110 0 := Int32.not_lt.mp h
      rw [hM.1.1, epc, nI_leI (by omega) (by have := hM.2.1; omega)] at h
      refine c35 h16 hr hrow (fun hno => ⟨_, rfl, fun h2 => absurd h2 (by decide), fun _ => ?_⟩) (fun c hc h2 => ⟨_, rfl, fun _ => ?_, fun h3 => absurd (nI_pos' (by omega)) h3⟩)
      · rw [epc]
        have hcov : Btw n E rs tk (nS 16 tk) := by
          refine ⟨t2, fun a b ha hb hE => ?_, fun c _ h => by rw [etk]; exact h, fun c _ h => by rw [etk] at h; exact Or.inl h⟩
          rw [etk]
          cases q : tk a
          · right
            cases q1 : rs a
            · exact hx a b ha hb hE q1 q
            · cases q2 : tk b
              · cases q3 : rs b
                · have := hx b a hb ha (by rw [hs]; exact hE) q3 q2
                  rw [q] at this; cases this
                · rw [hno a b q1 q3] at hE; cases hE
              · rfl
          · exact Or.inl rfl
        refine c36 hM (by omega) h fun σ' hf hM' => ⟨rfl, K σ' _ _ _ hf ?_ hM'⟩
        refine tal_note hT hcov (fun s hY => ?_) (fun q => hX _ q hcov) h
        have hsub : ∀ c, c < 16 → (nS 16 tk).testBit c = true → s.testBit c = true := fun c hc h => hY.2.2.1 c hc (by rw [etk] at h; exact h)
        exact ⟨pc_sub hsub, fun e => (set_ext (n := 16) (by omega) (by have := hY.1; omega) (pc_eq hsub (by omega))).symm⟩
      · have hcn := hr c h2
        have v := vp_in_nI hc (by decide)
        rw [sX_1 hc, sX_dif, sX_or]
        have hpart := fun s => btw_part (E := E) (tk := tk) hi h16 h2 hcn hd s
        have hdec : cN 16 (fun k => rs k && !decide (k = c)) < cN 16 rs := cN_lt 16 (fun k _ h => by simp only [Bool.and_eq_true] at h; exact h.1) ⟨c, hc, by simp, h2⟩
        have hdec2 : cN 16 (fun k => (rs k && !decide (k = c)) && !(decide (k < n) && E c k)) ≤ cN 16 (fun k => rs k && !decide (k = c)) := cN_le 16 fun k _ h => by simp only [Bool.and_eq_true] at h ⊢; exact h.1
        rw [nI_1]
        refine ih σ _ (fun k => rs k && !decide (k = c)) (fun k => tk k || decide (k = c)) X f l k (dp + 1) (by omega) (by omega) (fun k h => hr k (by simp only [Bool.and_eq_true] at h; exact h.1)) (fun k h => ?_) (fun k h => ?_) (fun a b ha hb hE h3 h4 => ?_) hrow hT hM (fun s h3 h4 => hX s h3 (((hpart s).1).mpr (Or.inl h4))) fun σ5 f5 l5 k5 fr5 hT5 hM5 => ⟨rfl, v, v, ?_⟩
        · simp only [Bool.or_eq_true, decide_eq_true_eq] at h
          rcases h with h | h
          · exact ht k h
          · rw [h]; exact hcn
        · simp only [Bool.and_eq_true, Bool.not_eq_true', decide_eq_false_iff_not] at h
          simp [hd k h.1, h.2]
        · simp only [Bool.or_eq_false_iff, decide_eq_false_iff_not] at h4
          have h5 : rs a = false := by cases q : rs a; rfl; simp [q, h4.2] at h3
          simp [hx a b ha hb hE h5 h4.1]
        · rw [nI_clamp (by omega), (fr5 111 (by simp)).1, hrow c hcn, sX_dif, sX_and, sX_or]
          refine ih σ5 _ _ _ (fun s => X s ∨ Btw n E (fun k => rs k && !decide (k = c)) (fun k => tk k || decide (k = c)) s) f5 l5 k5 (dp + 1) (by omega) (by omega) (fun k h => hr k (by simp only [Bool.and_eq_true] at h; exact h.1.1)) (fun k h => ?_) (fun k h => ?_) (fun a b ha hb hE h3 h4 => ?_) (fun a ha => by rw [(fr5 111 (by simp)).1]; exact hrow a ha) hT5 hM5 (fun s h3 h4 => ?_) fun σ8 f8 l8 k8 fr8 hT8 hM8 => ⟨rfl, K σ8 f8 l8 k8 (fr5.tr fr8) (tal_congr (fun s => ?_) hT8) hM8⟩
          · simp only [Bool.or_eq_true, Bool.and_eq_true] at h
            rcases h with h | h
            · exact ht k h
            · exact hr k h.2
          · simp only [Bool.and_eq_true, Bool.not_eq_true', decide_eq_false_iff_not] at h
            have h3 := h.2
            simp [hd k h.1.1]
            intro h4 h5
            simp [h4, h5] at h3
          · simp only [Bool.or_eq_false_iff] at h4
            cases q1 : rs a
            · simp [hx a b ha hb hE q1 h4.1]
            · have h5 := h4.2
              simp only [q1, Bool.and_true] at h5
              have hac : a = c := by
                rcases Classical.em (a = c) with e | e
                · exact e
                · simp [q1, e, h5] at h3
              subst hac
              cases q2 : tk b
              · cases q3 : rs b
                · have := hx b a hb ha (by rw [hs]; exact hE) q3 q2
                  rw [hd a q1] at this; cases this
                · simp [hb, hE]
              · rfl
          · rcases h3 with h3 | h3
            · exact hX s h3 (((hpart s).1).mpr (Or.inr h4))
            · exact (hpart s).2 ⟨h3, h4⟩
          · constructor
            · rintro ((h | h) | h)
              · exact Or.inl h
              · exact Or.inr (((hpart s).1).mpr (Or.inl h))
              · exact Or.inr (((hpart s).1).mpr (Or.inr h))
            · rintro (h | h)
              · exact Or.inl (Or.inl h)
              · rcases ((hpart s).1).mp h with h | h
                · exact Or.inl (Or.inr h)
                · exact Or.inr h
theorem c33 {o r : Nat} {B : Bk} {D : Nat → Nat → Bool} (hD : OrC o D σ) (hR : Rd r B σ)
    (K : ∀ σ' f l k, Fr [110, 111] σ σ' → Tal 16 (fun s => s < 2 ^ bN B ∧ cvr (bN B) (clE D (bG B)) s) f l k → TalM f l k σ' → Q none σ') : Cm Θ (d + 19) 33 [.ref 110, .ref r, .ref o] σ Q := by
  have h16 := hR.2.2.1
  refine K33 (B33_0 (bk_s hR.1) (or_s hD.1) ?_)
  refine loopS (α := Mem) (I := fun i s => Fr [111] σ s ∧ ∀ a, a < i → s.1 111 a = sX (fun b => decide (b < bN B) && clE D (bG B) a b)) (P := fun i s => G Θ (d + 19) 33 2 [some (.ref 110), some (.ref r), some (.ref o), some (.int (nI i))] [] s Q) (bN B) ?_ ?_ σ ⟨Fr.rfl, fun a h => absurd h (Nat.not_lt_zero _)⟩
  · intro s ⟨hf, hs⟩
    have hR' : Rd r B s := Rd_fr hR hf (by decide)
    refine B33_2 (bk_s hR.1) (or_s hD.1) ⟨fun _ => ?_, fun h => absurd (by rw [hR'.2.1]; exact nI_le (Nat.le_refl _) (by omega)) h⟩
    have fz : Fr [110] s (sI (sI (sI s 110 0 17) 110 1 0) 110 2 0) := ((Fr.rfl.I (by simp)).I (by simp)).I (by simp)
    have hRz := Rd_fr hR' fz (by decide)
    have en := hRz.2.1
    have e0 : (sI (sI (sI s 110 0 17) 110 1 0) 110 2 0).1 110 0 = nI 17 := by rw [sI_of _ _ (by omega), sI_of _ _ (by omega), sI_at]; rfl
    have e1 : (sI (sI (sI s 110 0 17) 110 1 0) 110 2 0).1 110 1 = nI 0 := by rw [sI_of _ _ (by omega), sI_at]; rfl
    have e2 : (sI (sI (sI s 110 0 17) 110 1 0) 110 2 0).1 110 2 = nI 0 := by rw [sI_at]; rfl
    generalize sI (sI (sI s 110 0 17) 110 1 0) 110 2 0 = sz at fz hRz en e0 e1 e2 ⊢
    refine ro (c17 (bk_s hR.1) en h16) ?_
    rw [show ([Value.ref 110, .int (sX fun c => decide (c < bN B)), .int 0, .int 0] : List Value) = [.ref 110, .int (sX fun c => decide (c < bN B)), .int (sX fun _ => false), .int (nI 0)] by rw [← sX_0, nI_0]]
    refine c34 (d := d) h16 (clE_s D (bG B)) (clE_i D (bG B)) 16 _ _ _ _ (fun _ => False) 17 0 0 0 (cN_max _ 16) (by have := cN_max (fun c => decide (c < bN B)) 16; omega) (fun c h => of_decide_eq_true h) (fun c h => (by cases h)) (fun _ _ => rfl) (fun a b ha hb hE h => ?_) (fun a ha => ?_) ⟨fun _ h => h.elim, [], rfl, List.nodup_nil, fun s => ⟨fun h => absurd h List.not_mem_nil, fun h => h.1.elim⟩, fun _ => by decide, fun h => absurd rfl h⟩ ⟨⟨e0, e1, e2⟩, by decide, by decide⟩ (fun _ h => h.elim) fun σ' f l k fr hT hM => ⟨rfl, K σ' f l k ((hf.mono (by simp)).tr ((fz.mono (by simp)).tr (fr.mono (by simp)))) (tal_congr (fun s => ?_) hT) hM⟩
    · rw [decide_eq_true ha] at h; cases h
    · rw [(fz 111 (by simp)).1]; exact hs a ha
    · constructor
      · rintro (h | h)
        · exact h.elim
        · exact ⟨h.1, h.2.1⟩
      · exact fun h => Or.inr ⟨h.1, h.2, fun c _ h => (by cases h), fun c _ hh => Or.inr (decide_eq_true (pw_b h.1 hh))⟩
  · intro i s hi ⟨hf, hs⟩ ih
    have hR' : Rd r B s := Rd_fr hR hf (by decide)
    have hD' : OrC o D s := OrC_fr hD hf (by decide)
    have v := vp_in_nI (show i < 16 by omega) (by decide)
    refine B33_2 (bk_s hR.1) (or_s hD.1) ⟨fun h => absurd h (by rw [hR'.2.1]; exact nI_ge hi (by omega)), fun _ => ?_⟩
    refine ro (c81 (d := d + 16) hD' hR' hi) ⟨v, ?_⟩
    rw [nI_1, nI_clamp (by omega)]
    refine ih _ ⟨hf.I (by simp), fun a ha => ?_⟩
    by_cases z : a = i
    · rw [z, sI_at]; rfl
    · rw [sI_of _ _ (by omega)]; exact hs a (by omega)
end again
