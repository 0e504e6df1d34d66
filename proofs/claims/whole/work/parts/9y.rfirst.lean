/-! CONTRACTS: the reference's first round: what is told against what stands ahead -/
theorem fsT_st {f : Nat → Bool} {j k : Nat} (h : fsT j f = (k : Int)) : ∀ n, j ≤ n → fsT n f = (k : Int)
  | 0, hn => by
    have : j = 0 := by omega
    rw [this] at h; exact h
  | n + 1, hn => by
    by_cases q : j = n + 1
    · rw [q] at h; exact h
    · have := fsT_st h n (by omega)
      show (if 0 ≤ fsT n f then fsT n f else if f n = true then (n : Int) else -1) = (k : Int)
      rw [if_pos (by omega)]; exact this
theorem fsT_s {f : Nat → Bool} {k : Nat} (h : ¬ 0 ≤ fsT k f) : fsT (k + 1) f = if f k = true then (k : Int) else -1 := if_neg h
/-- rows closed behind one more told line -/
theorem wrs_oV {B : Bk} {lv : Nat} {p : Nat → Bool} {k : Nat} (hk : BkOk lv B) (ht : k < bT B) {a : Nat} (ha : a < bN B) :
    sX (wrs (fun a b => oV B p k a b || (decide (a = bA B k) && decide (b = bU B k))) (bN B) a) = sX (oV B p (k + 1) a) := by
  obtain ⟨hA, hU⟩ := hk.2.2.2.2.2.2 k ht
  have n16 : bN B ≤ 16 := by have := hk.2.1; omega
  have e : ∀ b, b < bN B → (wrs (fun a b => oV B p k a b || (decide (a = bA B k) && decide (b = bU B k))) (bN B) a b = oV B p (k + 1) a b) := fun b hb => by
    apply bool_eq
    rw [wrs_eq (E := ovE B p (k + 1)) (fun x hx => by rw [oV_rf hx]; rfl) (fun x y hx hy h => ?_) (fun x y h => ?_) ha hb, oV_iff]
    · exact ⟨fun h => ⟨ha, hb, h⟩, fun h => h.2.2⟩
    · rw [Bool.or_eq_true, Bool.and_eq_true, decide_eq_true_eq, decide_eq_true_eq] at h
      rcases h with h | ⟨h1, h2⟩
      · exact cl_mono (fun u v q => by
          rcases q with q | ⟨i, hi, q⟩
          · exact cl_in (Or.inl q)
          · exact cl_in (Or.inr ⟨i, by omega, q⟩)) (oV_iff.mp h).2.2
      · exact cl_in (Or.inr ⟨k, by omega, h1, h2⟩)
    · rcases h with h | ⟨i, hi, h1, h2⟩
      · refine ⟨h.1, h.2.1, ?_⟩
        rw [Bool.or_eq_true]; left
        exact oV_iff.mpr ⟨h.1, h.2.1, cl_in (Or.inl h)⟩
      · have := hk.2.2.2.2.2.2 i (by omega)
        refine ⟨by omega, by omega, ?_⟩
        rw [Bool.or_eq_true, Bool.and_eq_true, decide_eq_true_eq, decide_eq_true_eq]
        by_cases z : i = k
        · subst z; exact Or.inr ⟨h1, h2⟩
        · exact Or.inl (oV_iff.mpr ⟨by omega, by omega, cl_in (Or.inr ⟨i, by omega, h1, h2⟩)⟩)
  have e2 : ∀ b, ¬ b < bN B → (wrs (fun a b => oV B p k a b || (decide (a = bA B k) && decide (b = bU B k))) (bN B) a b = oV B p (k + 1) a b) := fun b hb => by
    have z : oV B p (k + 1) a b = false := Bool.eq_false_iff.mpr fun q => hb (oV_iff.mp q).2.1
    rw [z]
    have : ∀ m x, wrs (fun a b => oV B p k a b || (decide (a = bA B k) && decide (b = bU B k))) m x b = false := by
      intro m
      induction m with
      | zero =>
        intro x
        show (oV B p k x b || (decide (x = bA B k) && decide (b = bU B k))) = false
        have y : oV B p k x b = false := Bool.eq_false_iff.mpr fun q => hb (oV_iff.mp q).2.1
        rw [y, decide_eq_false (show ¬ b = bU B k by omega)]; simp
      | succ m ih =>
        intro x
        show (wrs (fun a b => oV B p k a b || (decide (a = bA B k) && decide (b = bU B k))) m x b || (wrs (fun a b => oV B p k a b || (decide (a = bA B k) && decide (b = bU B k))) m x m && wrs (fun a b => oV B p k a b || (decide (a = bA B k) && decide (b = bU B k))) m m b)) = false
        rw [ih x, ih m]; simp
    exact this _ _
  refine sX_congr fun b _ => ?_
  by_cases hb : b < bN B
  · exact e b hb
  · exact e2 b hb
/-- cells of what is read, when only rows of the order change -/
theorem RdR_f {S : Rds} {σ s : Mem} {ls : List Nat} (hS : RdR S σ) (f : Fr ls σ s) (hl : ∀ x, 124 ≤ x → x ≤ 137 → x ∉ ls) : RdR S s := by
  have e : ∀ x, 124 ≤ x → x ≤ 137 → s.1 x = σ.1 x ∧ s.2.1 x = σ.2.1 x := fun x h1 h2 => ⟨(f x (hl x h1 h2)).1, (f x (hl x h1 h2)).2.1⟩
  obtain ⟨⟨a1, a2⟩, ⟨b1, b2, b3⟩, c1, c2⟩ := hS
  refine ⟨⟨by rw [(e 124 (by omega) (by omega)).1]; exact a1, fun i hi => ?_⟩, ⟨by rw [(e 124 (by omega) (by omega)).1]; exact b1, fun i hi => ?_, fun i m hi hm => ?_⟩, by rw [(e 124 (by omega) (by omega)).1]; exact c1, fun i hi => ?_⟩
  · rw [(e 126 (by omega) (by omega)).2, (e 128 (by omega) (by omega)).1, (e 137 (by omega) (by omega)).1]; exact a2 i hi
  · rw [(e 127 (by omega) (by omega)).2, (e 130 (by omega) (by omega)).1, (e 131 (by omega) (by omega)).1, (e 132 (by omega) (by omega)).1, (e 133 (by omega) (by omega)).1]; exact b2 i hi
  · rw [(e 129 (by omega) (by omega)).1]; exact b3 i m hi hm
  · rw [(e 134 (by omega) (by omega)).1, (e 135 (by omega) (by omega)).1, (e 136 (by omega) (by omega)).1]; exact c2 i hi
section rfi
variable {Θ : Th} {d : Nat} {σ : Mem} {Q : Po} {S : Rds}
theorem c194 (hS : RdR S σ) (hk : RdsOk S) (K : ∀ s, Fr [149] σ s → Q (some (.int (iI (agT (bkS S))))) s) : Cm Θ (d + 1) 194 [.ref 124] σ Q := by
  obtain ⟨B, hB⟩ : ∃ B, B = bkS S := ⟨_, rfl⟩
  obtain ⟨p, hp⟩ : ∃ p, p = bCt (bkS S) := ⟨_, rfl⟩
  have hkB : BkOk S.c B := by rw [hB]; exact bkS_ok hk
  have eN : bN B = S.c := by rw [hB]; rfl
  have eM : bM B = S.m := by rw [hB]; rfl
  have eT : bT B = S.t := by rw [hB]; rfl
  have eA : bA B = S.ov := by rw [hB]; rfl
  have eU : bU B = S.un := by rw [hB]; rfl
  have eS : bS B = S.cs := by rw [hB]; rfl
  have ep : ∀ m, m < S.m → p m = !S.mv m := fun m hm => by rw [hp]; show (decide (m < S.m) && !S.mv m) = !S.mv m; simp [hm]
  obtain ⟨km, kc, kt⟩ := hk.1
  have keep : ∀ s : Mem, Fr [149] σ s → RdR S s := fun s hs => RdR_f hS hs fun x h1 h2 => by simp; omega
  have eK : agT (bkS S) = fsT S.t (fun t => oV B p t (S.un t) (S.ov t)) := by rw [← hB]; unfold agT; rw [eT, eA, eU, hp, ← hB]
  rw [eK] at K
  -- told lines
  have p2 : ∀ s, Fr [149] σ s → (∀ a, a < S.c → s.1 149 a = sX (oV B p 0 a)) → G Θ (d + 1) 194 128 [some (.ref 124), some (.int 0), none, none, none] [] s Q := by
    intro s hf hs
    refine loopS (α := Mem) (I := fun k s' => Fr [149] σ s' ∧ (∀ a, a < S.c → s'.1 149 a = sX (oV B p k a)) ∧ ¬ 0 ≤ fsT k (fun t => oV B p t (S.un t) (S.ov t))) (P := fun k s' => G Θ (d + 1) 194 128 [some (.ref 124), some (.int (nI k)), none, none, none] [] s' Q) S.t ?_ ?_ s ⟨hf, hs, fun z => absurd (show (0 : Int) ≤ -1 from z) (by decide)⟩
    · intro s' ⟨hf', _, h3⟩
      refine B194_128 ⟨fun _ => ?_, fun z => absurd (by rw [(keep s' hf').2.2.1]; exact nI_le (Nat.le_refl _) (by omega)) z⟩
      have hb := fsT_b (f := fun t => oV B p t (S.un t) (S.ov t)) S.t
      have : fsT S.t (fun t => oV B p t (S.un t) (S.ov t)) = -1 := by omega
      have := K s' hf'
      rw [‹fsT S.t (fun t => oV B p t (S.un t) (S.ov t)) = -1›] at this
      exact this
    · intro k s' hkt ⟨hf', h2, h3⟩ ih
      have hR := keep s' hf'
      obtain ⟨w1, w2, -⟩ := hR.2.2.2 k hkt
      obtain ⟨b1, b2⟩ := hk.2.2.2.1 k hkt
      have v20 := vp_in_nI (show k < 20 by omega) (by decide)
      have vU := vp_in_nI (show S.un k < 16 by omega) (by decide)
      have vA := vp_in_nI (show S.ov k < 16 by omega) (by decide)
      refine B194_128 ⟨fun z => absurd z (by rw [hR.2.2.1]; exact nI_ge hkt (by omega)), fun _ => ?_⟩
      rw [nI_clamp (by omega), w1, w2, nI_clamp (show S.un k < 2 ^ 31 by omega), nI_clamp (show S.ov k < 2 ^ 31 by omega), h2 _ b2, sX_shr _ (by omega), bt_eq1, nI_1]
      refine ⟨v20, vU, v20, fun z => ⟨v20, vA, v20, vA, ?_⟩, fun z => ?_⟩
      · have z' : oV B p k (S.un k) (S.ov k) = false := by cases q : oV B p k (S.un k) (S.ov k) <;> simp_all
        rw [h2 _ b1, sX_add1 _ (by omega), sI_of _ _ (by omega), hR.2.1.1]
        refine (c193 (n := S.c) (D := fun a b => oV B p k a b || (decide (a = bA B k) && decide (b = bU B k))) kc fun a ha => ?_).mono fun s2 ⟨f2, r2⟩ => ?_
        · by_cases e : a = S.ov k
          · rw [e, sI_at]
            refine sX_congr fun y _ => ?_
            rw [eA, eU]; simp
          · rw [sI_of _ _ (by omega), h2 a ha]
            refine sX_congr fun y _ => ?_
            rw [eA, decide_eq_false e]; simp
        · refine ih s2 ⟨(hf'.I (by simp)).tr f2, fun a ha => ?_, ?_⟩
          · rw [r2 a ha, ← eN]
            exact wrs_oV hkB (by omega) (by omega)
          · rw [fsT_s h3, if_neg (by rw [z']; decide)]; decide
      · have e1 : fsT (k + 1) (fun t => oV B p t (S.un t) (S.ov t)) = (k : Int) := by rw [fsT_s h3, if_pos z]
        have := K s' hf'
        rw [fsT_st e1 S.t (by omega), ← iI_nI] at this
        exact this
  -- by the marks
  refine K194 (B194_0 ?_)
  refine loopS (α := Mem) (I := fun a s => Fr [149] σ s ∧ ∀ x, x < a → s.1 149 x = sX (oV B p 0 x)) (P := fun a s => G Θ (d + 1) 194 2 [some (.ref 124), some (.int (nI a)), none, none, none] [] s Q) S.c ?_ ?_ σ ⟨Fr.rfl, fun x hx => absurd hx (Nat.not_lt_zero x)⟩
  · intro s ⟨hf, h⟩
    exact B194_2 ⟨fun _ => p2 s hf h, fun z => absurd (by rw [(keep s hf).2.1.1]; exact nI_le (Nat.le_refl _) (by omega)) z⟩
  intro a s ha ⟨hf, h⟩ ih
  have va := vp_in_nI (show a < 16 by omega) (by decide)
  refine B194_2 ⟨fun z => absurd z (by rw [(keep s hf).2.1.1]; exact nI_ge ha (by omega)), fun _ => ⟨va, ?_⟩⟩
  rw [nI_clamp (by omega)]
  refine loopS (α := Mem) (I := fun y s' => Fr [149] σ s' ∧ (∀ x, x < a → s'.1 149 x = sX (oV B p 0 x)) ∧ s'.1 149 a = sX (fun z => decide (z < y) && oV B p 0 a z)) (P := fun y s' => G Θ (d + 1) 194 19 [some (.ref 124), some (.int (nI a)), some (.int (nI y)), none, none] [] s' Q) S.c ?_ ?_ _ ⟨hf.I (by simp), fun x hx => by rw [sI_of _ _ (by omega)]; exact h x hx, by rw [sI_at, sX_0]; exact sX_congr fun z _ => by simp⟩
  · intro s' ⟨hf', h1, h2⟩
    refine B194_19 ⟨fun _ => ?_, fun z => absurd (by rw [(keep s' hf').2.1.1]; exact nI_le (Nat.le_refl _) (by omega)) z⟩
    rw [nI_1]
    refine ih s' ⟨hf', fun x hx => ?_⟩
    by_cases z : x = a
    · rw [z, h2]
      refine sX_congr fun y _ => ?_
      cases q : oV B p 0 a y
      · simp
      · have := (oV_iff.mp q).2.1
        rw [decide_eq_true (by omega)]; rfl
    · exact h1 x (by omega)
  intro y s' hy ⟨hf', h1, h2⟩ ih'
  have hR := keep s' hf'
  refine B194_19 ⟨fun z => absurd z (by rw [hR.2.1.1]; exact nI_ge hy (by omega)), fun _ => ?_⟩
  have start := loopN (P := fun i => G Θ (d + 1) 194 32 [some (.ref 124), some (.int (nI a)), some (.int (nI y)), some (.int (b01 (nl i p (S.cs a) (S.cs y)))), some (.int (nI i))] [] s' Q) S.m ?_ ?_
  · exact start
  · refine B194_32 ⟨fun _ => ⟨va, ?_⟩, fun z => absurd (by rw [hR.1.1]; exact nI_le (Nat.le_refl _) (by omega)) z⟩
    have e0 : oV B p 0 a y = nl S.m p (S.cs a) (S.cs y) := by
      rw [oV_0, decide_eq_true (by omega), decide_eq_true (by omega)]
      show nl (bM B) p (bS B a) (bS B y) = _
      rw [eM, eS]
    rw [nI_clamp (by omega), h2, nI_1, Int32.or_zero, sX_add1 _ (by omega)]
    have fin : ∀ q : Nat → Bool, (∀ z, z < 16 → q z = (decide (z < y + 1) && oV B p 0 a z)) → G Θ (d + 1) 194 19 [some (.ref 124), some (.int (nI a)), some (.int (nI (y + 1))), none, none] [] (sI s' 149 a (sX q)) Q := fun q hq =>
      ih' _ ⟨hf'.I (by simp), fun x hx => by rw [sI_of _ _ (by omega)]; exact h1 x hx, by rw [sI_at]; exact sX_congr hq⟩
    refine ⟨fun z => ⟨va, fin _ fun x hx => ?_⟩, fun z => ⟨va, fin _ fun x hx => ?_⟩⟩
    · rw [b01_0] at z
      by_cases e : x = y
      · subst e; rw [e0, z]; simp
      · have : decide (x < y + 1) = decide (x < y) := by rw [decide_eq_decide]; omega
        rw [this]
    · rw [b01_n] at z
      by_cases e : x = y
      · subst e; rw [e0, z]; simp
      · have : decide (x < y + 1) = decide (x < y) := by rw [decide_eq_decide]; omega
        rw [this, decide_eq_false e]; simp
  · intro i hi ihm
    have e : nl (i + 1) p (S.cs a) (S.cs y) = (nl i p (S.cs a) (S.cs y) && (!p i || decide (S.cs y i ≤ S.cs a i))) := rfl
    rw [e, ep i hi] at ihm
    have ba := ((hk.2.2.1 a ha).2.2 i (by omega)).1 hi
    have bb := ((hk.2.2.1 y hy).2.2 i (by omega)).1 hi
    have bt := (hk.2.1 i hi).2.2
    refine B194_32 ⟨fun z => absurd z (by rw [hR.1.1]; exact nI_ge hi (by omega)), fun _ => ?_⟩
    rw [nI_1, nI_clamp (by omega), (hR.1.2 i hi).2.2, ix6', ix6', nI_clamp (by omega), nI_clamp (by omega), hR.2.1.2.2 a i ha (by omega), hR.2.1.2.2 y i hy (by omega), nI_ltI (by omega) (by omega)]
    refine ⟨fun z => ?_, fun z => ⟨vp_in_nI (by omega) (by decide), fun z2 => ?_, fun z2 => ⟨vp_in_nI (by omega) (by decide), vp_in_nI (by omega) (by decide), fun z3 => ?_, fun z3 => ?_⟩⟩⟩
    · rw [b01_0] at z; rw [z] at ihm; exact ihm
    · rw [b01_n] at z z2; rw [z, z2] at ihm; exact ihm
    · rw [b01_n] at z; rw [b01_0] at z2
      rw [z, z2, decide_eq_false (by omega)] at ihm; exact ihm
    · rw [b01_n] at z; rw [b01_0] at z2
      rw [z, z2, decide_eq_true (by omega)] at ihm; exact ihm
/-- whether, with these marks, a told line is against what stands ahead -/
noncomputable def agP (B : Bk) (p : Nat → Bool) : Int := fsT (bT B) (fun t => oV B p t (bU B t) (bA B t))
theorem c199 {lv : Nat} {B : Bk} {p : Nat → Bool} (hB : BkR lv B σ) (hk : BkOk lv B) (K : ∀ s, Fr [149] σ s → Q (some (.int (b01 (decide (0 ≤ agP B p))))) s) : Cm Θ (d + 1) 199 [.ref 124, .int (sX p)] σ Q := by
  obtain ⟨km, ⟨kn, klv⟩, ktp, -, kc, kt, kau⟩ := id hk
  have keep : ∀ s : Mem, Fr [149] σ s → BkR lv B s := fun s hs => BkR_fr hB hs (by decide)
  have p2 : ∀ s, Fr [149] σ s → (∀ a, a < bN B → s.1 149 a = sX (oV B p 0 a)) → G Θ (d + 1) 199 67 [some (.ref 124), none, some (.int 0), none] [] s Q := by
    intro s hf hs
    refine loopS (α := Mem) (I := fun k s' => Fr [149] σ s' ∧ (∀ a, a < bN B → s'.1 149 a = sX (oV B p k a)) ∧ ¬ 0 ≤ fsT k (fun t => oV B p t (bU B t) (bA B t))) (P := fun k s' => G Θ (d + 1) 199 67 [some (.ref 124), none, some (.int (nI k)), none] [] s' Q) (bT B) ?_ ?_ s ⟨hf, hs, fun z => absurd (show (0 : Int) ≤ -1 from z) (by decide)⟩
    · intro s' ⟨hf', _, h3⟩
      refine B199_67 ⟨fun _ => ?_, fun z => absurd (by rw [(keep s' hf').2.2.1]; exact nI_le (Nat.le_refl _) (by omega)) z⟩
      have := K s' hf'
      unfold agP at this
      rw [decide_eq_false h3] at this
      exact this
    · intro k s' hkt ⟨hf', h2, h3⟩ ih
      have hR := keep s' hf'
      have w1 := hR.2.2.2.1 k hkt
      have w2 := hR.2.2.2.2 k hkt
      obtain ⟨b1, b2⟩ := kau k hkt
      have v20 := vp_in_nI (show k < 20 by omega) (by decide)
      have vU := vp_in_nI (show bU B k < 16 by omega) (by decide)
      have vA := vp_in_nI (show bA B k < 16 by omega) (by decide)
      refine B199_67 ⟨fun z => absurd z (by rw [hR.2.2.1]; exact nI_ge hkt (by omega)), fun _ => ?_⟩
      rw [nI_clamp (by omega), w1, w2, nI_clamp (show bU B k < 2 ^ 31 by omega), nI_clamp (show bA B k < 2 ^ 31 by omega), h2 _ b2, sX_shr _ (by omega), bt_eq1, nI_1]
      refine ⟨v20, vU, v20, fun z => ⟨v20, vA, v20, vA, ?_⟩, fun z => ?_⟩
      · have z' : oV B p k (bU B k) (bA B k) = false := by cases q : oV B p k (bU B k) (bA B k) <;> simp_all
        rw [h2 _ b1, sX_add1 _ (by omega), sI_of _ _ (by omega), hR.2.1.1]
        refine (c193 (n := bN B) (D := fun a b => oV B p k a b || (decide (a = bA B k) && decide (b = bU B k))) (by omega) fun a ha => ?_).mono fun s2 ⟨f2, r2⟩ => ?_
        · by_cases e : a = bA B k
          · rw [e, sI_at]
            refine sX_congr fun y _ => ?_
            simp
          · rw [sI_of _ _ (by omega), h2 a ha]
            refine sX_congr fun y _ => ?_
            rw [decide_eq_false e]; simp
        · refine ih s2 ⟨(hf'.I (by simp)).tr f2, fun a ha => ?_, ?_⟩
          · rw [r2 a ha]
            exact wrs_oV hk hkt ha
          · rw [fsT_s h3, if_neg (by rw [z']; decide)]; decide
      · have e1 : fsT (k + 1) (fun t => oV B p t (bU B t) (bA B t)) = (k : Int) := by rw [fsT_s h3, if_pos z]
        have := K s' hf'
        unfold agP at this
        rw [fsT_st e1 (bT B) (by omega), decide_eq_true (by omega)] at this
        exact this
  refine K199 (B199_0 ?_)
  refine loopS (α := Mem) (I := fun a s => Fr [149] σ s ∧ ∀ x, x < a → s.1 149 x = sX (oV B p 0 x)) (P := fun a s => G Θ (d + 1) 199 2 [some (.ref 124), some (.int (sX p)), some (.int (nI a)), none] [] s Q) (bN B) ?_ ?_ σ ⟨Fr.rfl, fun x hx => absurd hx (Nat.not_lt_zero x)⟩
  · intro s ⟨hf, h⟩
    exact B199_2 ⟨fun _ => p2 s hf h, fun z => absurd (by rw [(keep s hf).2.1.1]; exact nI_le (Nat.le_refl _) (by omega)) z⟩
  intro a s ha ⟨hf, h⟩ ih
  have va := vp_in_nI (show a < 16 by omega) (by decide)
  refine B199_2 ⟨fun z => absurd z (by rw [(keep s hf).2.1.1]; exact nI_ge ha (by omega)), fun _ => ⟨va, ?_⟩⟩
  rw [nI_clamp (by omega)]
  refine loopS (α := Mem) (I := fun y s' => Fr [149] σ s' ∧ (∀ x, x < a → s'.1 149 x = sX (oV B p 0 x)) ∧ s'.1 149 a = sX (fun z => decide (z < y) && oV B p 0 a z)) (P := fun y s' => G Θ (d + 1) 199 19 [some (.ref 124), some (.int (sX p)), some (.int (nI a)), some (.int (nI y))] [] s' Q) (bN B) ?_ ?_ _ ⟨hf.I (by simp), fun x hx => by rw [sI_of _ _ (by omega)]; exact h x hx, by rw [sI_at, sX_0]; exact sX_congr fun z _ => by simp⟩
  · intro s' ⟨hf', h1, h2⟩
    refine B199_19 ⟨fun _ => ?_, fun z => absurd (by rw [(keep s' hf').2.1.1]; exact nI_le (Nat.le_refl _) (by omega)) z⟩
    rw [nI_1]
    refine ih s' ⟨hf', fun x hx => ?_⟩
    by_cases z : x = a
    · rw [z, h2]
      refine sX_congr fun y _ => ?_
      cases q : oV B p 0 a y
      · simp
      · have := (oV_iff.mp q).2.1
        rw [decide_eq_true (by omega)]; rfl
    · exact h1 x (by omega)
  intro y s' hy ⟨hf', h1, h2⟩ ih'
  have hR := keep s' hf'
  refine B199_19 ⟨fun z => absurd z (by rw [hR.2.1.1]; exact nI_ge hy (by omega)), fun _ => ⟨va, ?_⟩⟩
  refine (c195 (p := p) hR hk (show a < lv by omega) (show y < lv by omega)).mono fun v s2 ⟨e2, ev⟩ => ?_
  have ev : v = b01 (nlB B p a y) := ev
  have e2 : s2 = s' := e2
  subst e2
  rw [ev]
  have e0 : oV B p 0 a y = nlB B p a y := by rw [oV_0, decide_eq_true ha, decide_eq_true hy]; rfl
  rw [nI_clamp (by omega), h2, nI_1, Int32.or_zero, sX_add1 _ (by omega)]
  have fin : ∀ q : Nat → Bool, (∀ z, z < 16 → q z = (decide (z < y + 1) && oV B p 0 a z)) → G Θ (d + 1) 199 19 [some (.ref 124), some (.int (sX p)), some (.int (nI a)), some (.int (nI (y + 1)))] [] (sI s2 149 a (sX q)) Q := fun q hq =>
    ih' _ ⟨hf'.I (by simp), fun x hx => by rw [sI_of _ _ (by omega)]; exact h1 x hx, by rw [sI_at]; exact sX_congr hq⟩
  refine ⟨fun z => ⟨va, fin _ fun x hx => ?_⟩, fun z => ⟨va, fin _ fun x hx => ?_⟩⟩
  · rw [b01_0] at z
    by_cases e : x = y
    · subst e; rw [e0, z]; simp
    · have : decide (x < y + 1) = decide (x < y) := by rw [decide_eq_decide]; omega
      rw [this]
  · rw [b01_n] at z
    by_cases e : x = y
    · subst e; rw [e0, z]; simp
    · have : decide (x < y + 1) = decide (x < y) := by rw [decide_eq_decide]; omega
      rw [this, decide_eq_false e]; simp
end rfi
