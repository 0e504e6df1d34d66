/-! CONTRACTS: the reference's order -/
theorem wst_self (D : Nat → Nat → Bool) (m j : Nat) : wst D m m j = D m j := by
  show (D m j || (D m m && D m j)) = D m j
  cases D m j <;> cases D m m <;> rfl
theorem wrs_eq {n : Nat} {D : Nat → Nat → Bool} {E : Nat → Nat → Prop} (hr : ∀ k, k < n → D k k = true) (h1 : ∀ a b, a < n → b < n → D a b = true → Tc E a b) (h2 : ∀ a b, E a b → a < n ∧ b < n ∧ D a b = true) {a b : Nat} (ha : a < n) (hb : b < n) : wrs D n a b = true ↔ Tc E a b := by
  rw [wrs_iff hr ha hb]
  exact ⟨cl_mono fun x y q => h1 x y q.1 q.2.1 q.2.2, cl_mono fun x y q => cl_in (h2 x y q)⟩
/-- the book's cells in the reference -/
def BkR (lv : Nat) (B : Bk) (σ : Mem) : Prop :=
  (σ.1 124 37 = nI (bM B) ∧ (∀ m, m < bM B → σ.2.1 148 m = bNm B m) ∧ rowI σ 139 (bM B) (bTp B) ∧ (∀ m, m < 6 → σ.1 147 m = b01 (bCt B m))) ∧
  (σ.1 124 38 = nI (bN B) ∧ rowI σ 141 lv (bJ B) ∧ rowI σ 142 lv (bY B) ∧ rowI σ 143 lv (bG B) ∧ rowI σ 144 lv (bW B) ∧ ∀ c m, c < lv → m < bM B → σ.1 140 (6 * c + m) = nI (bS B c m)) ∧
  (σ.1 124 39 = nI (bT B) ∧ rowI σ 145 (bT B) (bA B) ∧ rowI σ 146 (bT B) (bU B))
/-- what stays of it: labels that no method of the order writes -/
theorem BkR_fr {lv : Nat} {B : Bk} {σ σ' : Mem} {ls : List Nat} (h : BkR lv B σ) (hf : Fr ls σ σ') (hl : 124 ∉ ls ∧ 139 ∉ ls ∧ 140 ∉ ls ∧ 141 ∉ ls ∧ 142 ∉ ls ∧ 143 ∉ ls ∧ 144 ∉ ls ∧ 145 ∉ ls ∧ 146 ∉ ls ∧ 147 ∉ ls ∧ 148 ∉ ls) : BkR lv B σ' := by
  obtain ⟨l0, l1, l2, l3, l4, l5, l6, l7, l8, l9, l10⟩ := hl
  obtain ⟨⟨a1, a2, a3, a4⟩, ⟨b1, b2, b3, b4, b5, b6⟩, c1, c2, c3⟩ := h
  have e0 := (hf 124 l0).1
  refine ⟨⟨by rw [e0]; exact a1, fun m hm => by rw [(hf 148 l10).2.1]; exact a2 m hm, fun m hm => by rw [(hf 139 l1).1]; exact a3 m hm, fun m hm => by rw [(hf 147 l9).1]; exact a4 m hm⟩,
    ⟨by rw [e0]; exact b1, fun m hm => by rw [(hf 141 l3).1]; exact b2 m hm, fun m hm => by rw [(hf 142 l4).1]; exact b3 m hm, fun m hm => by rw [(hf 143 l5).1]; exact b4 m hm, fun m hm => by rw [(hf 144 l6).1]; exact b5 m hm, fun c m hc hm => by rw [(hf 140 l2).1]; exact b6 c m hc hm⟩,
    by rw [e0]; exact c1, fun m hm => by rw [(hf 145 l7).1]; exact c2 m hm, fun m hm => by rw [(hf 146 l8).1]; exact c3 m hm⟩
theorem bt_eq1 {b : Bool} : b01 b = 1 ↔ b = true := by cases b <;> decide
section rorder
variable {Θ : Th} {d : Nat} {σ : Mem} {lv : Nat} {B : Bk}
theorem c193 {n : Nat} {D : Nat → Nat → Bool} (hn : n ≤ 16) (hD : ∀ a, a < n → σ.1 149 a = sX (D a)) :
    Cv Θ d 193 [.ref 149, .int (nI n)] σ (fun σ' => Fr [149] σ σ' ∧ ∀ a, a < n → σ'.1 149 a = sX (wrs D n a)) := by
  have h149 : shq 149 = (20, 16) := rfl
  refine K193 (n0 := 16) (B193_0 h149 ?_)
  refine loopS (α := Mem) (I := fun m s => Fr [149] σ s ∧ ∀ a, a < n → s.1 149 a = sX (wrs D m a)) (P := fun m s => G Θ d 193 2 [some (.ref 149), some (.int (nI n)), some (.int (nI m)), none] [] s (Pv fun σ' => Fr [149] σ σ' ∧ ∀ a, a < n → σ'.1 149 a = sX (wrs D n a))) n ?_ ?_ σ ⟨Fr.rfl, hD⟩
  · intro s h
    exact B193_2 h149 ⟨fun _ => ⟨rfl, h⟩, fun h => absurd (nI_le (Nat.le_refl _) (by omega)) h⟩
  · intro m s hm ⟨hf, hs⟩ ih
    refine B193_2 h149 ⟨fun h => absurd h (nI_ge hm (by omega)), fun _ => ?_⟩
    refine loopS (α := Mem) (I := fun k s => Fr [149] σ s ∧ ∀ a, a < n → s.1 149 a = if a < k then sX (wrs D (m + 1) a) else sX (wrs D m a)) (P := fun k s => G Θ d 193 9 [some (.ref 149), some (.int (nI n)), some (.int (nI m)), some (.int (nI k))] [] s (Pv fun σ' => Fr [149] σ σ' ∧ ∀ a, a < n → σ'.1 149 a = sX (wrs D n a))) n ?_ ?_ s ⟨hf, fun a ha => by rw [if_neg (by omega)]; exact hs a ha⟩
    · intro s' ⟨hf', hs'⟩
      refine B193_9 h149 ⟨fun _ => ?_, fun h => absurd (nI_le (Nat.le_refl _) (by omega)) h⟩
      rw [nI_1]
      exact ih s' ⟨hf', fun a ha => by rw [hs' a ha, if_pos ha]⟩
    · intro k s' hk ⟨hf', hs'⟩ ih'
      refine B193_9 h149 ⟨fun h => absurd h (nI_ge hk (by omega)), fun _ => ⟨vp_in_nI (show k < 16 by omega) (by decide), ?_⟩⟩
      have ek : s'.1 149 k = sX (wrs D m k) := by rw [hs' k hk, if_neg (by omega)]
      have em : s'.1 149 m = sX (wrs D m m) := by
        rw [hs' m hm]
        split
        · exact sX_congr fun j _ => wst_self (wrs D m) m j
        · rfl
      rw [nI_1, nI_clamp (by omega), nI_clamp (by omega), ek, em, sX_shr _ (by omega), bt_eq1]
      have vk := vp_in_nI (show k < 16 by omega) (by decide)
      have vm := vp_in_nI (show m < 16 by omega) (by decide)
      refine ⟨fun h => ?_, fun h => ⟨vk, vm, vk, ?_⟩⟩
      · refine ih' s' ⟨hf', fun a ha => ?_⟩
        rw [hs' a ha]
        by_cases e : a = k
        · subst e
          rw [if_neg (by omega), if_pos (by omega)]
          refine sX_congr fun j _ => ?_
          have h : wrs D m a m = false := by cases q : wrs D m a m <;> simp_all
          show _ = (wrs D m a j || (wrs D m a m && wrs D m m j))
          rw [h]; simp
        · by_cases q : a < k
          · rw [if_pos q, if_pos (by omega)]
          · rw [if_neg q, if_neg (by omega)]
      · refine ih' _ ⟨hf'.I (by simp), fun a ha => ?_⟩
        by_cases e : a = k
        · subst e
          rw [sI_at, if_pos (by omega), sX_or]
          refine sX_congr fun j _ => ?_
          show _ = (wrs D m a j || (wrs D m a m && wrs D m m j))
          rw [h]; simp
        · rw [sI_of _ _ (by omega), hs' a ha]
          by_cases q : a < k
          · rw [if_pos q, if_pos (by omega)]
          · rw [if_neg q, if_neg (by omega)]
theorem ix6' {c m : Nat} : 6 * nI c + nI m = nI (6 * c + m) := by
  rw [show (6 : Int32) = nI 6 from rfl, pk_mul, nI_add]
theorem c195 {a b : Nat} {p : Nat → Bool} (hB : BkR lv B σ) (hk : BkOk lv B) (ha : a < lv) (hb : b < lv) : Ci Θ d 195 [.ref 124, .int (nI a), .int (nI b), .int (sX p)] σ (fun v σ' => σ' = σ ∧ v = b01 (nlB B p a b)) := by
  obtain ⟨⟨hm, -⟩, ⟨-, -, -, -, -, hst⟩, -⟩ := hB
  obtain ⟨km, ⟨-, klv⟩, ktp, -, kc, -⟩ := hk
  refine K195 (B195_0 ?_)
  refine loopN (P := fun i => G Θ d 195 6 [some (.ref 124), some (.int (nI a)), some (.int (nI b)), some (.int (sX p)), some (.int (b01 (nl i p (bS B a) (bS B b)))), some (.int (nI i))] [] σ (Pi fun v σ' => σ' = σ ∧ v = b01 (nlB B p a b))) (bM B) ?_ ?_
  · exact B195_6 ⟨fun _ => ⟨b01_or _, _, rfl, rfl, rfl⟩, fun h => absurd (by rw [hm]; exact nI_le (Nat.le_refl _) (by omega)) h⟩
  · intro i hi ih
    have e : nl (i + 1) p (bS B a) (bS B b) = (nl i p (bS B a) (bS B b) && (!p i || decide (bS B b i ≤ bS B a i))) := rfl
    rw [e] at ih
    have ba := (kc a ha).2.2.2.2.2 i hi
    have bb := (kc b hb).2.2.2.2.2 i hi
    have bt := (ktp i hi).2
    refine B195_6 ⟨fun h => absurd h (by rw [hm]; exact nI_ge hi (by omega)), fun _ => ?_⟩
    rw [nI_1, sX_shr _ (by omega), ix6', ix6', nI_clamp (by omega), nI_clamp (by omega), hst a i ha hi, hst b i hb hi, nI_ltI (by omega) (by omega)]
    refine ⟨fun h => ?_, fun h => ⟨fun h2 => ?_, fun h2 => ⟨vp_in_nI (by omega) (by decide), vp_in_nI (by omega) (by decide), ⟨fun h3 => ?_, fun h3 => ?_⟩⟩⟩⟩
    · rw [b01_0] at h
      rw [h] at ih; exact ih
    · rw [b01_n] at h
      rw [b01_0] at h2
      rw [h, h2] at ih; exact ih
    · rw [b01_n] at h h2
      rw [h, h2, decide_eq_false (by omega)] at ih; exact ih
    · rw [b01_n] at h h2
      rw [h, h2, decide_eq_true (by omega)] at ih; exact ih
theorem c196 (hB : BkR lv B σ) (hk : BkOk lv B) : Ci Θ d 196 [.ref 124] σ (fun v σ' => σ' = σ ∧ v = sX (bCt B)) := by
  obtain ⟨⟨hm, -, -, hc⟩, -⟩ := hB
  obtain ⟨km, -, -, kct, -⟩ := hk
  refine K196 (B196_0 ?_)
  rw [sX_0]
  have start := loopN (P := fun i => G Θ d 196 4 [some (.ref 124), some (.int (sX (fun m => decide (m < i) && bCt B m))), some (.int (nI i))] [] σ (Pi fun v σ' => σ' = σ ∧ v = sX (bCt B))) (bM B) ?_ ?_
  · rw [sX_congr (q := fun _ => false) (fun k _ => by simp)] at start; exact start
  · refine B196_4 ⟨fun _ => ⟨_, rfl, rfl, sX_congr fun k _ => ?_⟩, fun h => absurd (by rw [hm]; exact nI_le (Nat.le_refl _) (by omega)) h⟩
    cases q : bCt B k
    · simp
    · simp [kct k q]
  · intro i hi ih
    refine B196_4 ⟨fun h => absurd h (by rw [hm]; exact nI_ge hi (by omega)), fun _ => ⟨vp_in_nI (show i < 6 by omega) (by decide), ?_⟩⟩
    rw [nI_clamp (by omega), hc i (by omega), nI_1, Int32.or_zero, sX_add1 _ (by omega)]
    refine ⟨fun h => ?_, fun h => ?_⟩
    · rw [b01_0] at h
      rw [sX_congr (q := fun m => decide (m < i) && bCt B m) (fun k _ => by
        by_cases e : k = i
        · subst e; simp [h]
        · have : decide (k < i + 1) = decide (k < i) := by rw [decide_eq_decide]; omega
          rw [this])] at ih
      exact ih
    · rw [b01_n] at h
      rw [sX_congr (q := fun m => (decide (m < i) && bCt B m) || decide (m = i)) (fun k _ => by
        by_cases e : k = i
        · subst e; simp [h]
        · have : decide (k < i + 1) = decide (k < i) := by rw [decide_eq_decide]; omega
          rw [this]; simp [e])] at ih
      exact ih
/-- the pairs that a book tells at once, by marks and by the first t told lines -/
def tE (B : Bk) (p : Nat → Bool) (t a b : Nat) : Bool := (decide (a < bN B) && (decide (b < bN B) && nlB B p a b)) || exB t (fun k => decide (a = bA B k) && decide (b = bU B k))
theorem tE_iff {B : Bk} {p : Nat → Bool} {t a b : Nat} : tE B p t a b = true ↔ ovE B p t a b := by
  show (_ || _) = true ↔ _
  rw [Bool.or_eq_true, exB_iff, Bool.and_eq_true, Bool.and_eq_true, decide_eq_true_eq, decide_eq_true_eq]
  constructor
  · rintro (h | ⟨k, hk, h⟩)
    · exact Or.inl h
    · rw [Bool.and_eq_true, decide_eq_true_eq, decide_eq_true_eq] at h
      exact Or.inr ⟨k, hk, h⟩
  · rintro (h | ⟨k, hk, h⟩)
    · exact Or.inl h
    · exact Or.inr ⟨k, hk, by rw [Bool.and_eq_true, decide_eq_true_eq, decide_eq_true_eq]; exact h⟩
theorem wrs_tE (hk : BkOk lv B) {p : Nat → Bool} {t : Nat} (ht : t ≤ bT B) {a b : Nat} (ha : a < bN B) (hb : b < bN B) : wrs (tE B p t) (bN B) a b = oV B p t a b := by
  apply bool_eq
  rw [wrs_eq (E := ovE B p t) (fun k hk => tE_iff.mpr (Or.inl ⟨hk, hk, nl_rf _ _ _⟩)) (fun a b _ _ h => cl_in (tE_iff.mp h)) (fun a b h => ⟨?_, ?_, tE_iff.mpr h⟩) ha hb, oV_iff]
  · exact ⟨fun h => ⟨ha, hb, h⟩, fun h => h.2.2⟩
  · rcases h with h | ⟨k, hkt, rfl, -⟩
    · exact h.1
    · exact (hk.2.2.2.2.2.2 k (by omega)).1
  · rcases h with h | ⟨k, hkt, -, rfl⟩
    · exact h.2.1
    · exact (hk.2.2.2.2.2.2 k (by omega)).2
theorem oV_n {B : Bk} {p : Nat → Bool} {t a b : Nat} (h : ¬ b < bN B) : oV B p t a b = false := by
  cases q : oV B p t a b
  · rfl
  · exact absurd (oV_iff.mp q).2.1 h
theorem wrs_col {D : Nat → Nat → Bool} {b : Nat} (h : ∀ a, D a b = false) : ∀ m a, wrs D m a b = false
  | 0, a => h a
  | m + 1, a => by
    show (wrs D m a b || (wrs D m a m && wrs D m m b)) = false
    rw [wrs_col h m a, wrs_col h m m]; simp
theorem tE_n (hk : BkOk lv B) {p : Nat → Bool} {t a b : Nat} (ht : t ≤ bT B) (hb : ¬ b < bN B) : tE B p t a b = false := by
  cases q : tE B p t a b
  · rfl
  · rcases tE_iff.mp q with h | ⟨k, hkt, -, rfl⟩
    · exact absurd h.2.1 hb
    · exact absurd (hk.2.2.2.2.2.2 k (by omega)).2 hb
theorem wrs_row (hk : BkOk lv B) {p : Nat → Bool} {t : Nat} (ht : t ≤ bT B) {a : Nat} (ha : a < bN B) : sX (wrs (tE B p t) (bN B) a) = sX (oV B p t a) :=
  sX_congr fun b _ => by
    rcases Nat.lt_or_ge b (bN B) with q | q
    · exact wrs_tE hk ht ha q
    · rw [oV_n (by omega), wrs_col fun a => tE_n hk ht (by omega)]
theorem c197 {p : Nat → Bool} {told : Bool} (hB : BkR lv B σ) (hk : BkOk lv B) : Cv Θ (d + 1) 197 [.ref 124, .int (sX p), .int (b01 told)] σ (fun σ' => Fr [149, 150] σ σ' ∧ ∀ a, a < bN B → σ'.1 149 a = sX (oV B p (if told = true then bT B else 0) a) ∧ σ'.1 150 a = sX (fun b => oV B p (if told = true then bT B else 0) b a)) := by
  have hk' := hk
  obtain ⟨km, ⟨kn, klv⟩, ktp, -, kc, kt, kau⟩ := hk
  have keep : ∀ s : Mem, Fr [149, 150] σ s → BkR lv B s := fun s hs => BkR_fr hB hs (by decide)
  have hN : ∀ s : Mem, Fr [149, 150] σ s → s.1 124 38 = nI (bN B) := fun s hs => (keep s hs).2.1.1
  obtain ⟨t, ht⟩ : ∃ t, t = if told = true then bT B else 0 := ⟨_, rfl⟩
  rw [← ht]
  have htle : t ≤ bT B := by rw [ht]; split <;> omega
  -- last: the rows of those that are over
  have p3 : ∀ s, Fr [149, 150] σ s → (∀ a, a < bN B → s.1 149 a = sX (oV B p t a)) → G Θ (d + 1) 197 124 [some (.ref 124), none, none, some (.int 0), none] [] s (Pv fun σ' => Fr [149, 150] σ σ' ∧ ∀ a, a < bN B → σ'.1 149 a = sX (oV B p t a) ∧ σ'.1 150 a = sX (fun b => oV B p t b a)) := by
    intro s hf hs
    refine loopS (α := Mem) (I := fun a s' => Fr [150] s s' ∧ ∀ x, x < a → s'.1 150 x = sX (fun b => oV B p t b x)) (P := fun a s' => G Θ (d + 1) 197 124 [some (.ref 124), none, none, some (.int (nI a)), none] [] s' (Pv fun σ' => Fr [149, 150] σ σ' ∧ ∀ a, a < bN B → σ'.1 149 a = sX (oV B p t a) ∧ σ'.1 150 a = sX (fun b => oV B p t b a))) (bN B) ?_ ?_ s ⟨Fr.rfl, fun x hx => by omega⟩
    · intro s' ⟨hf', h'⟩
      have hf2 : Fr [149, 150] σ s' := hf.tr (hf'.mono (by simp))
      refine B197_124 ⟨fun _ => ⟨rfl, hf2, fun a ha => ⟨?_, h' a ha⟩⟩, fun h => absurd (by rw [hN s' hf2]; exact nI_le (Nat.le_refl _) (by omega)) h⟩
      rw [(hf' 149 (by decide)).1, hs a ha]
    · intro a s' ha ⟨hf', h'⟩ ih
      have hf2 : Fr [149, 150] σ s' := hf.tr (hf'.mono (by simp))
      refine B197_124 ⟨fun h => absurd h (by rw [hN s' hf2]; exact nI_ge ha (by omega)), fun _ => ⟨vp_in_nI (show a < 16 by omega) (by decide), ?_⟩⟩
      rw [nI_clamp (by omega)]
      refine loopS (α := Mem) (I := fun b s2 => Fr [150] s s2 ∧ (∀ x, x < a → s2.1 150 x = sX (fun b => oV B p t b x)) ∧ s2.1 150 a = sX (fun x => decide (x < b) && oV B p t x a)) (P := fun b s2 => G Θ (d + 1) 197 142 [some (.ref 124), none, none, some (.int (nI a)), some (.int (nI b))] [] s2 (Pv fun σ' => Fr [149, 150] σ σ' ∧ ∀ a, a < bN B → σ'.1 149 a = sX (oV B p t a) ∧ σ'.1 150 a = sX (fun b => oV B p t b a))) (bN B) ?_ ?_ _ ⟨hf'.I (by simp), fun x hx => by rw [sI_of _ _ (by omega)]; exact h' x hx, by rw [sI_at, sX_0]; exact sX_congr fun k _ => by simp⟩
      · intro s2 ⟨hf3, h3, h4⟩
        have hf4 : Fr [149, 150] σ s2 := hf.tr (hf3.mono (by simp))
        refine B197_142 ⟨fun _ => ?_, fun h => absurd (by rw [hN s2 hf4]; exact nI_le (Nat.le_refl _) (by omega)) h⟩
        rw [nI_1]
        refine ih s2 ⟨hf3, fun x hx => ?_⟩
        rcases Nat.lt_or_ge x a with q | q
        · exact h3 x q
        · have : x = a := by omega
          subst this
          rw [h4]
          refine sX_congr fun b _ => ?_
          cases q : oV B p t b x
          · simp
          · simp [(oV_iff.mp q).1]
      · intro b s2 hb ⟨hf3, h3, h4⟩ ih2
        have hf4 : Fr [149, 150] σ s2 := hf.tr (hf3.mono (by simp))
        have va := vp_in_nI (show a < 16 by omega) (by decide)
        refine B197_142 ⟨fun h => absurd h (by rw [hN s2 hf4]; exact nI_ge hb (by omega)), fun _ => ⟨va, vp_in_nI (show b < 16 by omega) (by decide), ?_⟩⟩
        rw [nI_clamp (by omega), nI_clamp (by omega), nI_1, (hf3 149 (by decide)).1, hs b hb, sX_shr _ (by omega), bt_eq1, h4, Int32.or_zero, sX_add1 _ (by omega)]
        refine ⟨fun h => ⟨va, ?_⟩, fun h => ⟨va, ?_⟩⟩
        · refine ih2 _ ⟨hf3.I (by simp), fun x hx => by rw [sI_of _ _ (by omega)]; exact h3 x hx, ?_⟩
          rw [sI_at]
          refine sX_congr fun x _ => ?_
          by_cases e : x = b
          · subst e
            have h : oV B p t x a = false := by cases q : oV B p t x a <;> simp_all
            simp [h]
          · have : decide (x < b + 1) = decide (x < b) := by rw [decide_eq_decide]; omega
            rw [this]
        · refine ih2 _ ⟨hf3.I (by simp), fun x hx => by rw [sI_of _ _ (by omega)]; exact h3 x hx, ?_⟩
          rw [sI_at]
          refine sX_congr fun x _ => ?_
          by_cases e : x = b
          · subst e; simp [h]
          · have : decide (x < b + 1) = decide (x < b) := by rw [decide_eq_decide]; omega
            rw [this]; simp [e]
  -- told lines, closed behind them
  have p2 : ∀ s, Fr [149, 150] σ s → (∀ a, a < bN B → s.1 149 a = sX (tE B p 0 a)) → G Θ (d + 1) 197 71 [some (.ref 124), none, some (.int (b01 told)), some (.int 0), none] [] s (Pv fun σ' => Fr [149, 150] σ σ' ∧ ∀ a, a < bN B → σ'.1 149 a = sX (oV B p t a) ∧ σ'.1 150 a = sX (fun b => oV B p t b a)) := by
    intro s hf hs
    have fin : ∀ s', Fr [149, 150] σ s' → (∀ a, a < bN B → s'.1 149 a = sX (tE B p t a)) → Cv Θ d 193 [.ref 149, .int (nI (bN B))] s' (fun σ2 => G Θ (d + 1) 197 124 [some (.ref 124), none, none, some (.int 0), none] [] σ2 (Pv fun σ' => Fr [149, 150] σ σ' ∧ ∀ a, a < bN B → σ'.1 149 a = sX (oV B p t a) ∧ σ'.1 150 a = sX (fun b => oV B p t b a))) := by
      intro s' hf' hs'
      refine (c193 (by omega) hs').mono fun s2 ⟨h1, h2⟩ => ?_
      exact p3 s2 (hf'.tr (h1.mono (by simp))) fun a ha => by rw [h2 a ha]; exact wrs_row hk' htle ha
    refine loopS (α := Mem) (I := fun k s' => Fr [149, 150] σ s' ∧ ∀ a, a < bN B → s'.1 149 a = sX (tE B p k a)) (P := fun k s' => G Θ (d + 1) 197 71 [some (.ref 124), none, some (.int (b01 told)), some (.int (nI k)), none] [] s' (Pv fun σ' => Fr [149, 150] σ σ' ∧ ∀ a, a < bN B → σ'.1 149 a = sX (oV B p t a) ∧ σ'.1 150 a = sX (fun b => oV B p t b a))) t ?_ ?_ s ⟨hf, hs⟩
    · intro s' ⟨hf', hs'⟩
      have kk := keep s' hf'
      refine B197_71 ⟨fun _ => ?_, fun hgt => ⟨fun h => ?_, fun h => ?_⟩⟩
      · rw [hN s' hf']; exact fin s' hf' hs'
      · rw [hN s' hf']; exact fin s' hf' hs'
      · rw [b01_n] at h
        refine absurd ?_ hgt
        rw [kk.2.2.1, ht, if_pos h]
        exact nI_le (Nat.le_refl _) (by omega)
    · intro k s' hkt ⟨hf', hs'⟩ ih
      have kk := keep s' hf'
      have htold : told = true := by
        cases q : told
        · rw [q] at ht; simp at ht; omega
        · rfl
      have htB : t = bT B := by rw [ht, if_pos htold]
      have hkB : k < bT B := by omega
      refine B197_71 ⟨fun h => absurd h (by rw [kk.2.2.1]; exact nI_ge hkB (by omega)), fun _ => ⟨fun h => ?_, fun _ => ?_⟩⟩
      · rw [htold] at h; exact absurd h (by decide)
      · have hA := (kau k hkB).1
        have hU := (kau k hkB).2
        have v20 := vp_in_nI (show k < 20 by omega) (by decide)
        rw [nI_clamp (by omega), kk.2.2.2.1 k hkB, kk.2.2.2.2 k hkB, nI_clamp (by omega), nI_1]
        have vA := vp_in_nI (show bA B k < 16 by omega) (by decide)
        refine ⟨v20, vA, v20, vA, ?_⟩
        refine ih _ ⟨hf'.I (by simp), fun a ha => ?_⟩
        have estep : ∀ a b, tE B p (k + 1) a b = (tE B p k a b || (decide (a = bA B k) && decide (b = bU B k))) := fun a b => by
          show (_ || (exB k _ || _)) = ((_ || exB k _) || _)
          rw [Bool.or_assoc]
        by_cases e : a = bA B k
        · subst e
          rw [sI_at, hs' _ ha, sX_add1 _ (by omega)]
          exact sX_congr fun b _ => by rw [estep]; simp
        · rw [sI_of _ _ (by omega), hs' a ha]
          exact sX_congr fun b _ => by rw [estep]; simp [e]
  -- first: by the marks
  refine K197 (B197_0 ?_)
  have e0 : ∀ a b, a < bN B → tE B p 0 a b = (decide (b < bN B) && nlB B p a b) := fun a b ha => by
    show ((decide (a < bN B) && _) || exB 0 _) = _
    simp [ha, exB]
  refine loopS (α := Mem) (I := fun a s' => Fr [149] σ s' ∧ ∀ x, x < a → s'.1 149 x = sX (tE B p 0 x)) (P := fun a s' => G Θ (d + 1) 197 2 [some (.ref 124), some (.int (sX p)), some (.int (b01 told)), some (.int (nI a)), none] [] s' (Pv fun σ' => Fr [149, 150] σ σ' ∧ ∀ a, a < bN B → σ'.1 149 a = sX (oV B p t a) ∧ σ'.1 150 a = sX (fun b => oV B p t b a))) (bN B) ?_ ?_ σ ⟨Fr.rfl, fun x hx => by omega⟩
  · intro s' ⟨hf', h'⟩
    have hf2 : Fr [149, 150] σ s' := hf'.mono (by simp)
    exact B197_2 ⟨fun _ => p2 s' hf2 h', fun h => absurd (by rw [hN s' hf2]; exact nI_le (Nat.le_refl _) (by omega)) h⟩
  · intro a s' ha ⟨hf', h'⟩ ih
    have hf2 : Fr [149, 150] σ s' := hf'.mono (by simp)
    have va := vp_in_nI (show a < 16 by omega) (by decide)
    refine B197_2 ⟨fun h => absurd h (by rw [hN s' hf2]; exact nI_ge ha (by omega)), fun _ => ⟨va, ?_⟩⟩
    rw [nI_clamp (by omega)]
    refine loopS (α := Mem) (I := fun b s2 => Fr [149] σ s2 ∧ (∀ x, x < a → s2.1 149 x = sX (tE B p 0 x)) ∧ s2.1 149 a = sX (fun x => decide (x < b) && tE B p 0 a x)) (P := fun b s2 => G Θ (d + 1) 197 20 [some (.ref 124), some (.int (sX p)), some (.int (b01 told)), some (.int (nI a)), some (.int (nI b))] [] s2 (Pv fun σ' => Fr [149, 150] σ σ' ∧ ∀ a, a < bN B → σ'.1 149 a = sX (oV B p t a) ∧ σ'.1 150 a = sX (fun b => oV B p t b a))) (bN B) ?_ ?_ _ ⟨hf'.I (by simp), fun x hx => by rw [sI_of _ _ (by omega)]; exact h' x hx, by rw [sI_at, sX_0]; exact sX_congr fun k _ => by simp⟩
    · intro s2 ⟨hf3, h3, h4⟩
      have hf4 : Fr [149, 150] σ s2 := hf3.mono (by simp)
      refine B197_20 ⟨fun _ => ?_, fun h => absurd (by rw [hN s2 hf4]; exact nI_le (Nat.le_refl _) (by omega)) h⟩
      rw [nI_1]
      refine ih s2 ⟨hf3, fun x hx => ?_⟩
      rcases Nat.lt_or_ge x a with q | q
      · exact h3 x q
      · have : x = a := by omega
        subst this
        rw [h4]
        refine sX_congr fun b _ => ?_
        rw [e0 x b ha]
        cases decide (b < bN B) <;> simp
    · intro b s2 hb ⟨hf3, h3, h4⟩ ih2
      have hf4 : Fr [149, 150] σ s2 := hf3.mono (by simp)
      refine B197_20 ⟨fun h => absurd h (by rw [hN s2 hf4]; exact nI_ge hb (by omega)), fun _ => ⟨va, ?_⟩⟩
      refine ro (c195 (keep s2 hf4) hk' (by omega) (by omega)) ?_
      rw [nI_clamp (by omega), nI_1, h4, Int32.or_zero, sX_add1 _ (by omega)]
      have eb : tE B p 0 a b = nlB B p a b := by rw [e0 a b ha]; simp [hb]
      refine ⟨fun h => ⟨va, ?_⟩, fun h => ⟨va, ?_⟩⟩
      · rw [b01_0, ← eb] at h
        refine ih2 _ ⟨hf3.I (by simp), fun x hx => by rw [sI_of _ _ (by omega)]; exact h3 x hx, ?_⟩
        rw [sI_at]
        refine sX_congr fun x _ => ?_
        by_cases e : x = b
        · subst e; simp [h]
        · have : decide (x < b + 1) = decide (x < b) := by rw [decide_eq_decide]; omega
          rw [this]
      · rw [b01_n, ← eb] at h
        refine ih2 _ ⟨hf3.I (by simp), fun x hx => by rw [sI_of _ _ (by omega)]; exact h3 x hx, ?_⟩
        rw [sI_at]
        refine sX_congr fun x _ => ?_
        by_cases e : x = b
        · subst e; simp [h]
        · have : decide (x < b + 1) = decide (x < b) := by rw [decide_eq_decide]; omega
          rw [this]; simp [e]
theorem c198 (hB : BkR lv B σ) (hk : BkOk lv B) : Cv Θ (d + 2) 198 [.ref 124] σ (fun σ' => Fr [149, 150] σ σ' ∧ ∀ a, a < bN B → σ'.1 149 a = sX (oV B (bCt B) (bT B) a) ∧ σ'.1 150 a = sX (fun b => oV B (bCt B) (bT B) b a)) :=
  K198 (B198_0 (ro (c196 hB hk) ((c197 (told := true) hB hk).mono fun s h => ⟨rfl, h⟩)))
end rorder
