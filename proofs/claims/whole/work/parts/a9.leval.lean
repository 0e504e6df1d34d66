/-! CONTRACTS: what laws are worth, in the class and in the reference -/
theorem nI_m1 (n : Nat) : nI (n + 1) + (-1) = nI n := by
  rw [iI_nI, iI_m1, iI_add, iI_nI]; congr 1; push_cast; omega
/-- a pile: the top first -/
def rwK (l : Nat) : List Int32 → Mem → Prop
  | [], _ => True
  | x :: t, σ => σ.1 l t.length = x ∧ rwK l t σ
theorem rwK_fr {l : Nat} {σ s : Mem} (e : s.1 l = σ.1 l) : ∀ {K : List Int32}, rwK l K σ → rwK l K s
  | [], _ => True.intro
  | x :: t, h => ⟨by rw [e]; exact h.1, rwK_fr e h.2⟩
theorem rwK_up {l k : Nat} {x : Int32} {σ : Mem} : ∀ {K : List Int32}, K.length ≤ k → rwK l K σ → rwK l K (sI σ l k x)
  | [], _, _ => True.intro
  | y :: t, hl, h => by
    have hl : t.length + 1 ≤ k := hl
    exact ⟨by rw [sI_of _ _ (by omega)]; exact h.1, rwK_up (by omega) h.2⟩
/-- what a class's pile leaves -/
def FrP (o : Nat) (σ s : Mem) : Prop := Fr [o, o + 6] σ s ∧ (∀ y, y ≠ 11 → s.1 o y = σ.1 o y) ∧ s.2 = σ.2
theorem frP_rfl {o : Nat} {σ : Mem} : FrP o σ σ := ⟨Fr.rfl, fun _ _ => rfl, rfl⟩
theorem frP_tr {o : Nat} {σ σ' σ'' : Mem} (h : FrP o σ σ') (h' : FrP o σ' σ'') : FrP o σ σ'' := ⟨h.1.tr h'.1, fun y a => (h'.2.1 y a).trans (h.2.1 y a), h'.2.2.trans h.2.2⟩
def PiC (o : Nat) (K : List Int32) (σ : Mem) : Prop := σ.1 o 11 = nI K.length ∧ rwK (o + 6) K σ
theorem LwC_P {o : Nat} {S : Lw} {σ s : Mem} (h : LwC o S σ) (f : FrP o σ s) : LwC o S s := by
  obtain ⟨⟨h1, ⟨h2, h3⟩, h4⟩, h5, h6⟩ := h
  have e : ∀ x, x ≠ o → x ≠ o + 6 → s.1 x = σ.1 x := fun x a c => (f.1 x (by simp; omega)).1
  refine ⟨⟨h1, ⟨by rw [f.2.1 8 (by decide)]; exact h2, by rw [f.2.1 9 (by decide)]; exact h3⟩, rwC_fr (e _ (by omega) (by omega)) (e _ (by omega) (by omega)) h4⟩, by rw [f.2.1 2 (by decide)]; exact h5, fun i hi => ?_⟩
  rw [e (o + 1) (by omega) (by omega), e (o + 2) (by omega) (by omega), e (o + 3) (by omega) (by omega)]; exact h6 i hi
theorem BkC_P {r o lv : Nat} {B : Bk} {σ s : Mem} (h : BkC r lv B σ) (ho : o = 32 ∨ o = 39) (f : FrP o σ s) : BkC r lv B s := by
  obtain ⟨h1, ⟨a1, a2, a3, a4⟩, ⟨b1, b2, b3, b4, b5, b6⟩, c1, c2, c3⟩ := h
  have e : ∀ x, 12 ≤ x → x ≤ 31 → s.1 x = σ.1 x := fun x h1 h2 => (f.1 x (by simp; omega)).1
  have hr : 12 ≤ r ∧ r + 9 ≤ 31 := by omega
  unfold BkC rowI
  rw [e r (by omega) (by omega), e (r + 2) (by omega) (by omega), e (r + 3) (by omega) (by omega), e (r + 4) (by omega) (by omega), e (r + 5) (by omega) (by omega), e (r + 6) (by omega) (by omega), e (r + 7) (by omega) (by omega), e (r + 8) (by omega) (by omega), e (r + 9) (by omega) (by omega), f.2.2]
  exact ⟨h1, ⟨a1, a2, a3, a4⟩, ⟨b1, b2, b3, b4, b5, b6⟩, c1, c2, c3⟩
section lev
variable {Θ : Th} {d : Nat} {σ : Mem} {Q : Po} {o r lv : Nat} {B : Bk} {K : List Int32}
theorem c63 {x : Int32} (ho : o = 32 ∨ o = 39) (h : PiC o K σ) (hl : K.length < 50) (k : ∀ s, FrP o σ s → PiC o (x :: K) s → Q none s) : Cm Θ d 63 [.ref o, .int x] σ Q := by
  have vm := vp_in_nI hl (by decide)
  refine K63 (B63_0 (o_s ho) ⟨fun z => absurd z (by rw [h.1]; exact nI_ge (b := 50) hl (by omega)), fun _ => ?_⟩)
  have e1 : (sI σ (o + 6) K.length x).1 o 11 = nI K.length := by rw [sI_of _ _ (by omega)]; exact h.1
  rw [h.1, nI_clamp (by omega), e1, nI_1]
  refine ⟨vm, k _ ⟨(Fr.rfl.I (by simp)).I (by simp), fun y hy => by rw [sI_of _ _ (by omega), sI_of _ _ (by omega)], rfl⟩ ⟨?_, ?_, ?_⟩⟩
  · rw [sI_at]; rfl
  · rw [sI_of _ _ (by omega), sI_at]
  · exact rwK_fr (sI_ne (by omega)) (rwK_up (Nat.le_refl _) h.2)
theorem c64 {x : Int32} {t : List Int32} (ho : o = 32 ∨ o = 39) (h : PiC o (x :: t) σ) (hl : (x :: t).length ≤ 50) (k : ∀ s, FrP o σ s → PiC o t s → Q (some (.int x)) s) : Cm Θ d 64 [.ref o] σ Q := by
  have hl : t.length + 1 ≤ 50 := hl
  have e0 : σ.1 o 11 = nI (t.length + 1) := h.1
  have l0 : nI (t.length + 1) = 0 ↔ t.length + 1 = 0 := nI_eq (b := 0) (by omega) (by omega)
  refine K64 (B64_0 (o_s ho) ?_)
  rw [e0, l0, nI_pred, sI_at, nI_clamp (by omega)]
  refine ⟨fun _ => ⟨vp_in_nI (by omega) (by decide), ?_⟩, fun z => absurd z (by omega)⟩
  have e1 : (sI σ o 11 (nI t.length)).1 (o + 6) t.length = x := by rw [sI_of _ _ (by omega)]; exact h.2.1
  rw [e1]
  exact k _ ⟨Fr.rfl.I (by simp), fun y hy => sI_of _ _ (by omega), rfl⟩ ⟨sI_at _ _ _ _, rwK_fr (sI_ne (by omega)) h.2.2⟩
theorem c65 {c : Nat} {x : Nat × Nat} (hB : BkC r lv B σ) (hk : BkOk lv B) (hc : c < lv) (hx : x.1 < 6) (ho : opOk (bM B) x) (k : Q (some (.int (gC B c x))) σ) : Cm Θ (d + 1) 65 [.ref r, .int (nI c), .int (nI x.1), .int (nI x.2)] σ Q := by
  have hr := bk_s hB.1
  have hlv := hk.2.1.2
  obtain ⟨-, -, ⟨b1, b2, b3, b4, b5, b6⟩, -⟩ := hB
  have vm := vp_in_nI (show c < 16 by omega) (by decide)
  have hm := hk.1
  refine K65 (B65_0 hr ?_)
  rw [nI_int (by omega), nI_clamp (by omega)]
  unfold gC at k
  refine ⟨fun z => ?_, fun z => ?_, fun z => ⟨vm, ?_⟩, fun z => ⟨vm, ?_⟩, fun z => ⟨vm, ?_⟩, fun z => ⟨vm, ?_⟩⟩
  · rw [if_neg (by omega), if_neg (by omega), if_neg (by omega), if_neg (by omega), if_neg (by omega)] at k; exact k
  · have z : x.1 = 1 := by omega
    rw [if_pos z] at k
    have := ho.2.2 z
    refine ro (c15 hr (show c ≤ 16 by omega) (show x.2 < 6 by omega)) ?_
    rw [b6 c x.2 hc this]; exact k
  · rw [if_neg (by omega), if_pos (by omega)] at k; rw [b2 c hc]; exact k
  · rw [if_neg (by omega), if_neg (by omega), if_pos (by omega)] at k; rw [b3 c hc]; exact k
  · rw [if_neg (by omega), if_neg (by omega), if_neg (by omega), if_pos (by omega)] at k; rw [b4 c hc]; exact k
  · rw [if_neg (by omega), if_neg (by omega), if_neg (by omega), if_neg (by omega), if_pos (by omega)] at k; rw [b5 c hc]; exact k
theorem c66 {p : Nat} {x y : Int32} (hp : 7 ≤ p ∧ p ≤ 14) (k : Q (some (.int (jnV p x y))) σ) : Cm Θ (d + 1) 66 [.int (nI p), .int x, .int y] σ Q := by
  unfold jnV at k
  refine K66 (B66_0 ?_)
  rw [nI_int (by omega)]
  refine ⟨fun z => ?_, fun z => ?_, fun z => ?_, fun z => ?_⟩
  · refine K67 (B67_0 ?_)
    rw [nI_int (by omega)]
    have no : ∀ {q : Po}, q (some (.int 0)) σ → True := fun _ => True.intro
    refine ⟨fun w => ?_, fun w => ?_, fun w => ?_, fun w => ?_, fun w => ?_⟩
    · rw [if_pos (by omega)] at k
      refine ⟨fun a => ⟨1, rfl, fun b => absurd b (by decide), fun _ => ?_⟩, fun a => ⟨fun b => ⟨0, rfl, fun _ => ?_, fun b => absurd rfl b⟩, fun b => ⟨1, rfl, fun b => absurd b (by decide), fun _ => ?_⟩⟩⟩
      · rw [if_neg (fun h => a h.1)] at k; exact k
      · rw [if_pos ⟨a, b⟩] at k; exact k
      · rw [if_neg (fun h => b h.2)] at k; exact k
    · rw [if_neg (by omega), if_pos (by omega)] at k
      refine ⟨fun a => ⟨0, rfl, fun _ => ?_, fun b => absurd rfl b⟩, fun a => ⟨fun b => ⟨0, rfl, fun _ => ?_, fun b => absurd rfl b⟩, fun b => ⟨1, rfl, fun b => absurd b (by decide), fun _ => ?_⟩⟩⟩
      · rw [if_pos (Or.inl a)] at k; exact k
      · rw [if_pos (Or.inr b)] at k; exact k
      · rw [if_neg (fun h => h.elim a b)] at k; exact k
    · rw [if_neg (by omega), if_neg (by omega), if_pos (by omega)] at k
      refine ⟨fun a => ⟨0, rfl, fun _ => ?_, fun b => absurd rfl b⟩, fun a => ⟨1, rfl, fun b => absurd b (by decide), fun _ => ?_⟩⟩
      · rw [if_neg (by rw [i_lt]; rw [i_le] at a; omega)] at k; exact k
      · rw [if_pos (by rw [i_lt]; rw [i_le] at a; omega)] at k; exact k
    · rw [if_neg (by omega), if_neg (by omega), if_neg (by omega), if_pos (by omega)] at k
      refine ⟨fun a => ⟨0, rfl, fun _ => ?_, fun b => absurd rfl b⟩, fun a => ⟨1, rfl, fun b => absurd b (by decide), fun _ => ?_⟩⟩
      · rw [if_neg (by rw [i_lt]; rw [i_le] at a; omega)] at k; exact k
      · rw [if_pos (by rw [i_lt]; rw [i_le] at a; omega)] at k; exact k
    · rw [if_neg (by omega), if_neg (by omega), if_neg (by omega), if_neg (by omega), if_pos (by omega)] at k
      refine ⟨fun a => ⟨0, rfl, fun _ => ?_, fun b => absurd rfl b⟩, fun a => ⟨1, rfl, fun b => absurd b (by decide), fun _ => ?_⟩⟩
      · rw [if_neg a] at k; exact k
      · rw [if_pos a] at k; exact k
  · rw [if_neg (by omega), if_neg (by omega), if_neg (by omega), if_neg (by omega), if_neg (by omega), if_pos (by omega)] at k; exact k
  · rw [if_neg (by omega), if_neg (by omega), if_neg (by omega), if_neg (by omega), if_neg (by omega), if_neg (by omega), if_pos (by omega)] at k; exact k
  · rw [if_neg (by omega), if_neg (by omega), if_neg (by omega), if_neg (by omega), if_neg (by omega), if_neg (by omega), if_neg (by omega)] at k; exact k
theorem pfL_m {mk : Nat} {P : List (Nat × Nat)} (h : ∀ x, x ∈ P → opOk mk x) {i : Nat} (hi : i < P.length) : opOk mk (pfL P i) := by
  unfold pfL
  have hl : i < P.reverse.length := by rw [List.length_reverse]; exact hi
  rw [List.getD_eq_getElem?_getD, List.getElem?_eq_getElem hl]
  exact h _ (List.mem_reverse.mp (List.getElem_mem hl))
theorem c62g {S : Lw} {c e : Nat} (hk : LwOk (bM B) S) (hkB : BkOk lv B) (hc : c < lv) (he : e ≤ S.P.length) : ∀ (n i : Nat) (K : List Int32) (σ : Mem) (Q : Po), i + n = e → wfN (pfL S.P) n i K.length → K.length ≤ 50 → LwC o S σ → BkC r lv B σ → PiC o K σ →
    (∀ s, FrP o σ s → Q (some (.int ((evN (gC B c) (pfL S.P) n i K).headD 0))) s) → G Θ (d + 2 + 1) 62 8 [some (.ref o), some (.ref r), some (.int (nI c)), none, some (.int (nI e)), some (.int (nI i)), none] [] σ Q
  | 0, i, K, σ, Q, hi, hw, hl, hS, hB, hP, k => by
    have hw : K.length = 1 := hw
    have hi : i = e := by omega
    subst hi
    have hl5 := hk.1.2.2.1
    refine B62_8 (o_s hS.1.1) (bk_s hB.1) ⟨fun _ => ?_, fun z => absurd (nI_le (Nat.le_refl _) (by omega)) z⟩
    cases K with
    | nil => cases hw
    | cons x t =>
      exact c64 hS.1.1 hP hl fun s f _ => ⟨_, rfl, k s f⟩
  | n + 1, i, K, σ, Q, hi, hw, hl, hS, hB, hP, k => by
    have ho := hS.1.1
    have hl5 := hk.1.2.2.1
    have hi5 : i < S.P.length := by omega
    obtain ⟨r1, r2⟩ := rwC_at hS.1.2.2 i hi5
    have hop := pfL_m hk.2.1 hi5
    have v := vp_in_nI (show i < 500 by omega) (show 500 < 2 ^ 31 by decide)
    have l6 : (6 : Int32) ≤ nI (pfL S.P i).1 ↔ 6 ≤ (pfL S.P i).1 := nI_leI (a := 6) (by omega) (by have := hop.1; omega)
    have e6 : nI (pfL S.P i).1 = 6 ↔ (pfL S.P i).1 = 6 := nI_eq (b := 6) (by have := hop.1; omega) (by omega)
    unfold wfN at hw
    unfold evN at k
    refine B62_8 (o_s ho) (bk_s hB.1) ⟨fun z => absurd z (nI_ge (show i < e by omega) (by omega)), fun _ => ⟨v, ?_⟩⟩
    rw [nI_clamp (by omega), r1, r2, l6, e6, nI_1]
    refine ⟨fun q6 => ⟨v, fun q => ?_, fun q => ?_⟩, fun q6 => ⟨v, v, ?_⟩⟩
    · rw [if_neg (by omega), if_neg q] at hw k
      cases K with
      | nil => exact absurd hw.1 (by simp)
      | cons y t =>
        cases t with
        | nil => exact absurd hw.1 (by simp)
        | cons x t =>
          have hl2 : t.length + 1 + 1 ≤ 50 := hl
          refine c64 ho hP hl fun s1 f1 p1 => ⟨_, rfl, v, ?_⟩
          have hS1 := LwC_P hS f1
          refine c64 ho p1 (by show t.length + 1 ≤ 50; omega) fun s2 f2 p2 => ⟨_, rfl, ?_⟩
          rw [(rwC_at hS1.1.2.2 i hi5).1]
          refine c66 (d := d + 1) ⟨by omega, hop.1⟩ ⟨_, rfl, ?_⟩
          refine c63 ho p2 (by omega) fun s3 f3 p3 => ⟨rfl, ?_⟩
          have F := frP_tr f1 (frP_tr f2 f3)
          exact c62g hk hkB hc he n (i + 1) (jnV (pfL S.P i).1 x y :: t) s3 Q (by omega) hw.2 (by show t.length + 1 ≤ 50; omega) (LwC_P hS F) (BkC_P hB ho F) p3 fun s f => k s (frP_tr F f)
    · rw [if_neg (by omega), if_pos q] at hw k
      cases K with
      | nil => exact absurd hw.1 (by simp)
      | cons x t =>
        have hl2 : t.length + 1 ≤ 50 := hl
        refine c64 ho hP hl fun s1 f1 p1 => ⟨_, rfl, fun z => ?_, fun z => ?_⟩
        · refine c63 ho p1 (by omega) fun s2 f2 p2 => ⟨rfl, ?_⟩
          have F := frP_tr f1 f2
          have e : ntV x = 0 := if_neg z
          have k : ∀ s, FrP o σ s → Q (some (.int ((evN (gC B c) (pfL S.P) n (i + 1) (ntV x :: t)).headD 0))) s := k
          rw [e] at k
          exact c62g hk hkB hc he n (i + 1) (0 :: t) s2 Q (by omega) hw.2 hl2 (LwC_P hS F) (BkC_P hB ho F) p2 fun s f => k s (frP_tr F f)
        · refine c63 ho p1 (by omega) fun s2 f2 p2 => ⟨rfl, ?_⟩
          have F := frP_tr f1 f2
          have e : ntV x = 1 := if_pos z
          have k : ∀ s, FrP o σ s → Q (some (.int ((evN (gC B c) (pfL S.P) n (i + 1) (ntV x :: t)).headD 0))) s := k
          rw [e] at k
          exact c62g hk hkB hc he n (i + 1) (1 :: t) s2 Q (by omega) hw.2 hl2 (LwC_P hS F) (BkC_P hB ho F) p2 fun s f => k s (frP_tr F f)
    · rw [if_pos (by omega)] at hw k
      refine c65 (d := d + 1) hB hkB hc (by omega) hop ⟨_, rfl, ?_⟩
      refine c63 ho hP hw.1 fun s2 f2 p2 => ⟨rfl, ?_⟩
      exact c62g hk hkB hc he n (i + 1) (gC B c (pfL S.P i) :: K) s2 Q (by omega) hw.2 hw.1 (LwC_P hS f2) (BkC_P hB ho f2) p2 fun s f => k s (frP_tr f2 f)
theorem c62 {S : Lw} {c i : Nat} (hS : LwC o S σ) (hk : LwOk (bM B) S) (hB : BkC r lv B σ) (hkB : BkOk lv B) (hc : c < lv) (hi : i < S.k) (k : ∀ s, FrP o σ s → Q (some (.int (wrt (gC B c) S i))) s) : Cm Θ (d + 3) 62 [.ref o, .ref r, .int (nI c), .int (nI (S.bg i)), .int (nI (S.st i))] σ Q := by
  have ho := hS.1.1
  obtain ⟨h1, h2, h3, h4, h5⟩ := hk.2.2 i hi
  refine K62 (B62_0 (o_s ho) (bk_s hB.1) ?_)
  have F : FrP o σ (sI σ o 11 0) := ⟨Fr.rfl.I (by simp), fun y hy => sI_of _ _ (by omega), rfl⟩
  exact c62g hk hkB hc h4 (S.st i - S.bg i) (S.bg i) [] _ Q (by omega) h5 (Nat.zero_le _) (LwC_P hS F) (BkC_P hB ho F) ⟨sI_at _ _ _ _, True.intro⟩ fun s f => k s (frP_tr F f)
theorem c61 {S : Lw} {c : Nat} (hS : LwC o S σ) (hk : LwOk (bM B) S) (hB : BkC r lv B σ) (hkB : BkOk lv B) (hc : c < lv) (k : ∀ s, FrP o σ s → Q (some (.int (iI (lnE B S c)))) s) : Cm Θ (d + 4) 61 [.ref o, .ref r, .int (nI c)] σ Q := by
  have ho := hS.1.1
  have hk8 := hk.1.1
  refine K61 (B61_0 (o_s ho) (bk_s hB.1) ?_)
  have start := loopS (α := Mem) (I := fun i s => FrP o σ s ∧ ¬ 0 ≤ fsT i (fun i => !decide (wrt (gC B c) S i = 0))) (P := fun i s => G Θ (d + 3 + 1) 61 5 [some (.ref o), some (.ref r), some (.int (nI c)), some (.int (nI (S.bg i))), some (.int (nI i))] [] s Q) S.k ?_ ?_ σ ⟨frP_rfl, fun z => absurd (show (0 : Int) ≤ -1 from z) (by decide)⟩
  · exact start
  · intro s ⟨f, hz⟩
    have hS' := LwC_P hS f
    refine B61_5 (o_s ho) (bk_s hB.1) ⟨fun _ => ?_, fun z => absurd (by rw [hS'.2.1]; exact nI_le (Nat.le_refl _) (by omega)) z⟩
    have hb := fsT_b (f := fun i => !decide (wrt (gC B c) S i = 0)) S.k
    have e : lnE B S c = -1 := by unfold lnE; omega
    have := k s f
    rw [e] at this; exact this
  · intro i s hi ⟨f, hz⟩ ih
    have hS' := LwC_P hS f
    have hB' := BkC_P hB ho f
    have v := vp_in_nI (show i < 8 by omega) (show 8 < 2 ^ 31 by decide)
    refine B61_5 (o_s ho) (bk_s hB.1) ⟨fun z => absurd z (by rw [hS'.2.1]; exact nI_ge hi (by omega)), fun _ => ⟨v, ?_⟩⟩
    rw [nI_clamp (by omega), (hS'.2.2 i hi).2.2]
    refine c62 (d := d) hS' hk hB' hkB hc hi fun s2 f2 => ⟨_, rfl, fun z => ⟨v, ?_⟩, fun z => ?_⟩
    · rw [((LwC_P hS' f2).2.2 i hi).2.2, nI_1]
      exact ih s2 ⟨frP_tr f f2, by rw [fsT_s hz, if_neg (by simp [z])]; decide⟩
    · have e1 : fsT (i + 1) (fun i => !decide (wrt (gC B c) S i = 0)) = (i : Int) := by rw [fsT_s hz, if_pos (by simp [z])]
      have := k s2 (frP_tr f f2)
      unfold lnE at this
      rw [fsT_st e1 S.k (by omega), ← iI_nI] at this
      exact this
/-! the reference -/
theorem c264 {p : Nat} {x y : Int32} (hp : 7 ≤ p ∧ p ≤ 14) (k : Q (some (.int (jnV p x y))) σ) : Cm Θ d 264 [.int (nI (rcd p)), .int x, .int y] σ Q := by
  have e : ∀ v, v ≤ 30 → (nI v).toInt = v := fun v hv => nI_int (by omega)
  unfold jnV at k
  have hr := rcd_b (c := p) (by omega)
  refine K264 (B264_0 ?_)
  rw [e _ hr.2.1]
  have cs : (p = 7 ∧ rcd p = 20) ∨ (p = 8 ∧ rcd p = 21) ∨ (p = 9 ∧ rcd p = 24) ∨ (p = 10 ∧ rcd p = 25) ∨ (p = 11 ∧ rcd p = 23) ∨ (p = 12 ∧ rcd p = 26) ∨ (p = 13 ∧ rcd p = 27) ∨ (p = 14 ∧ rcd p = 28) := by
    have : p = 7 ∨ p = 8 ∨ p = 9 ∨ p = 10 ∨ p = 11 ∨ p = 12 ∨ p = 13 ∨ p = 14 := by omega
    rcases this with rfl | rfl | rfl | rfl | rfl | rfl | rfl | rfl <;> decide
  refine ⟨fun z => ?_, fun z => ?_, fun z => ?_, fun z => by omega, fun z => ?_, fun z => ?_, fun z => ?_, fun z => ?_, fun z => ?_⟩
  · rw [if_neg (by omega), if_neg (by omega), if_neg (by omega), if_neg (by omega), if_neg (by omega), if_neg (by omega), if_neg (by omega)] at k; exact k
  · rw [if_pos (by omega)] at k
    refine ⟨fun a => ?_, fun a => ⟨fun b => ?_, fun b => ?_⟩⟩
    · rw [if_neg (fun h => a h.1)] at k; exact k
    · rw [if_pos ⟨a, b⟩] at k; exact k
    · rw [if_neg (fun h => b h.2)] at k; exact k
  · rw [if_neg (by omega), if_pos (by omega)] at k
    refine ⟨fun a => ?_, fun a => ⟨fun b => ?_, fun b => ?_⟩⟩
    · rw [if_pos (Or.inl a)] at k; exact k
    · rw [if_pos (Or.inr b)] at k; exact k
    · rw [if_neg (fun h => h.elim a b)] at k; exact k
  · rw [if_neg (by omega), if_neg (by omega), if_neg (by omega), if_neg (by omega), if_pos (by omega)] at k
    refine ⟨fun a => ?_, fun a => ?_⟩
    · rw [if_neg a] at k; exact k
    · rw [if_pos a] at k; exact k
  · rw [if_neg (by omega), if_neg (by omega), if_pos (by omega)] at k
    refine ⟨fun a => ?_, fun a => ?_⟩
    · rw [if_neg (by rw [i_lt]; rw [i_le] at a; omega)] at k; exact k
    · rw [if_pos (by rw [i_lt]; rw [i_le] at a; omega)] at k; exact k
  · rw [if_neg (by omega), if_neg (by omega), if_neg (by omega), if_pos (by omega)] at k
    refine ⟨fun a => ?_, fun a => ?_⟩
    · rw [if_neg (by rw [i_lt]; rw [i_le] at a; omega)] at k; exact k
    · rw [if_pos (by rw [i_lt]; rw [i_le] at a; omega)] at k; exact k
  · rw [if_neg (by omega), if_neg (by omega), if_neg (by omega), if_neg (by omega), if_neg (by omega), if_pos (by omega)] at k; exact k
  · rw [if_neg (by omega), if_neg (by omega), if_neg (by omega), if_neg (by omega), if_neg (by omega), if_neg (by omega), if_pos (by omega)] at k; exact k
theorem c265 {S : Lw} {c i : Nat} (hF : LwF S σ) (hk : LwOk (bM B) S) (hB : BkR lv B σ) (hkB : BkOk lv B) (hc : c < lv) (hi : i < S.P.length) (h6 : (pfL S.P i).1 < 6) (k : Q (some (.int (gC B c (pfL S.P i)))) σ) : Cm Θ d 265 [.ref 124, .int (nI c), .int (nI i)] σ Q := by
  have hlv := hkB.2.1.2
  obtain ⟨-, ⟨b1, b2, b3, b4, b5, b6⟩, -⟩ := hB
  have hl5 := hk.1.2.2.1
  have vm := vp_in_nI (show c < 16 by omega) (by decide)
  have vi := vp_in_nI (show i < 600 by omega) (show 600 < 2 ^ 31 by decide)
  have hm := hkB.1
  have hop := pfL_m hk.2.1 hi
  obtain ⟨f1, f2⟩ := hF.2.1 i hi
  have er : rcd (pfL S.P i).1 = (pfL S.P i).1 := by
    have : ∀ x : Fin 6, rcd x.val = x.val := by decide +kernel
    exact this ⟨_, h6⟩
  rw [er] at f1
  unfold gC at k
  refine K265 (B265_0 ⟨vi, ?_⟩)
  rw [nI_clamp (by omega), nI_clamp (by omega), f1, nI_int (by omega)]
  refine ⟨fun z => ⟨vm, ?_⟩, fun z => ⟨vi, ?_⟩, fun z => ⟨vi, ?_⟩, fun z => ⟨vm, ?_⟩, fun z => ⟨vm, ?_⟩, fun z => ⟨vm, ?_⟩⟩
  · rw [if_neg (by omega), if_neg (by omega), if_neg (by omega), if_neg (by omega), if_pos (by omega)] at k; rw [b5 c hc]; exact k
  · rw [if_neg (by omega), if_neg (by omega), if_neg (by omega), if_neg (by omega), if_neg (by omega)] at k; rw [f2 (by omega)]; exact k
  · have z : (pfL S.P i).1 = 1 := by omega
    have hx := hop.2.2 z
    rw [if_pos z] at k
    rw [f2 (by omega), ix6r, nI_clamp (by omega), b6 c _ hc hx]
    exact ⟨vp_in_nI (by omega) (by decide), k⟩
  · rw [if_neg (by omega), if_pos (by omega)] at k; rw [b2 c hc]; exact k
  · rw [if_neg (by omega), if_neg (by omega), if_pos (by omega)] at k; rw [b3 c hc]; exact k
  · rw [if_neg (by omega), if_neg (by omega), if_neg (by omega), if_pos (by omega)] at k; rw [b4 c hc]; exact k
theorem LwF_f {S : Lw} {s : Mem} {ls : List Nat} (h : LwF S σ) (f : Fr ls σ s) (hl : ∀ x, x = 124 ∨ (166 ≤ x ∧ x ≤ 170) → x ∉ ls) : LwF S s := by
  obtain ⟨h1, h2, h3⟩ := h
  have e : ∀ x, x = 124 ∨ (166 ≤ x ∧ x ≤ 170) → s.1 x = σ.1 x := fun x hx => (f x (hl x hx)).1
  unfold LwF
  rw [e 124 (by omega), e 166 (by omega), e 167 (by omega), e 168 (by omega), e 169 (by omega), e 170 (by omega)]
  exact ⟨h1, h2, h3⟩
theorem c266g {S : Lw} {c ln : Nat} (hk : LwOk (bM B) S) (hkB : BkOk lv B) (hc : c < lv) (hln : ln < S.k) : ∀ (n i : Nat) (K : List Int32) (σ : Mem) (Q : Po), i + n = S.st ln → wfN (pfL S.P) n i K.length → K.length ≤ 50 → LwF S σ → BkR lv B σ → rwK 172 K σ →
    (∀ s, Fr [172] σ s → Q (some (.int (b01 (!decide ((evN (gC B c) (pfL S.P) n i K).headD 0 = 0))))) s) → G Θ (d + 1) 266 10 [some (.ref 124), some (.int (nI ln)), some (.int (nI c)), some (.int (nI K.length)), some (.int (nI i))] [] σ Q
  | 0, i, K, σ, Q, hi, hw, hl, hF, hB, hP, k => by
    have hw : K.length = 1 := hw
    have hl5 := hk.1.2.2.1
    have h8 := hk.1.1
    obtain ⟨-, -, h3, h4, -⟩ := hk.2.2 ln hln
    refine B266_10 ?_
    rw [nI_1, nI_clamp (by omega), (hF.2.2 ln hln).1.2]
    refine ⟨vp_in_nI (by omega) (by decide), fun _ => ?_, fun z => absurd (nI_le (show S.st ln ≤ i by omega) (by omega)) z⟩
    cases K with
    | nil => cases hw
    | cons x t =>
      have ht : t.length = 0 := by have hw : t.length + 1 = 1 := hw; omega
      have e : σ.1 172 (0 : Int32).toNatClampNeg = x := by
        have := hP.1
        rw [ht] at this; exact this
      have k := k σ Fr.rfl
      have k : Q (some (.int (b01 (!decide (x = 0))))) σ := k
      rw [e]
      refine ⟨fun z => ?_, fun z => ?_⟩
      · rw [decide_eq_true z] at k; exact k
      · rw [decide_eq_false z] at k; exact k
  | n + 1, i, K, σ, Q, hi, hw, hl, hF, hB, hP, k => by
    have hl5 := hk.1.2.2.1
    have h8 := hk.1.1
    obtain ⟨-, -, h3, h4, -⟩ := hk.2.2 ln hln
    have hi5 : i < S.P.length := by omega
    obtain ⟨r1, r2⟩ := hF.2.1 i hi5
    have hop := pfL_m hk.2.1 hi5
    have v := vp_in_nI (show i < 600 by omega) (show 600 < 2 ^ 31 by decide)
    have rb : (pfL S.P i).1 < 6 ∧ rcd (pfL S.P i).1 < 20 ∨ 6 ≤ (pfL S.P i).1 ∧ 20 ≤ rcd (pfL S.P i).1 := by
      have : ∀ x : Fin 15, x.val < 6 ∧ rcd x.val < 20 ∨ 6 ≤ x.val ∧ 20 ≤ rcd x.val := by decide +kernel
      exact this ⟨(pfL S.P i).1, Nat.lt_succ_of_le hop.1⟩
    have rb2 : rcd (pfL S.P i).1 < 31 ∧ (rcd (pfL S.P i).1 = 22 ↔ (pfL S.P i).1 = 6) := by
      have : ∀ x : Fin 15, rcd x.val < 31 ∧ (rcd x.val = 22 ↔ x.val = 6) := by decide +kernel
      exact this ⟨(pfL S.P i).1, Nat.lt_succ_of_le hop.1⟩
    have l20 : (20 : Int32) ≤ nI (rcd (pfL S.P i).1) ↔ 6 ≤ (pfL S.P i).1 := by
      rw [show (20 : Int32) ≤ nI (rcd (pfL S.P i).1) ↔ 20 ≤ rcd (pfL S.P i).1 from nI_leI (a := 20) (by omega) (by omega)]; omega
    have e22 : nI (rcd (pfL S.P i).1) = 22 ↔ (pfL S.P i).1 = 6 := by
      rw [← rb2.2]; exact nI_eq (b := 22) (by omega) (by omega)
    have fk : ∀ {s : Mem}, Fr [172] σ s → LwF S s ∧ BkR lv B s := fun f => ⟨LwF_f hF f (by intro x hx; simp; omega), BkR_fr hB f (by decide)⟩
    unfold wfN at hw
    unfold evN at k
    refine B266_10 ?_
    rw [nI_1, nI_clamp (by omega), (hF.2.2 ln hln).1.2]
    refine ⟨vp_in_nI (by omega) (by decide), fun z => absurd z (nI_ge (show i < S.st ln by omega) (by omega)), fun _ => ⟨v, ?_⟩⟩
    rw [nI_clamp (by omega), r1, l20, e22]
    refine ⟨fun q6 => ⟨v, fun q => ⟨v, ?_⟩, fun q => ?_⟩, fun q6 => ?_⟩
    · rw [if_neg (by omega), if_neg q] at hw k
      cases K with
      | nil => exact absurd hw.1 (by simp)
      | cons y t =>
        cases t with
        | nil => exact absurd hw.1 (by simp)
        | cons x t =>
          have hl2 : t.length + 1 + 1 ≤ 50 := hl
          have e1 : nI (y :: x :: t).length + (-1) = nI (t.length + 1) := nI_m1 (t.length + 1)
          rw [e1, nI_pred, nI_clamp (by omega), nI_clamp (by omega), show σ.1 172 t.length = x from hP.2.1, show σ.1 172 (t.length + 1) = y from hP.1]
          have vt := vp_in_nI (show t.length < 60 by omega) (show 60 < 2 ^ 31 by decide)
          refine ⟨vt, vp_in_nI (by omega) (by decide), c264 ⟨by omega, hop.1⟩ ⟨_, rfl, vt, ?_⟩⟩
          rw [nI_1]
          have F : Fr [172] σ (sI σ 172 t.length (jnV (pfL S.P i).1 x y)) := Fr.rfl.I (by simp)
          obtain ⟨g1, g2⟩ := fk F
          exact c266g hk hkB hc hln n (i + 1) (jnV (pfL S.P i).1 x y :: t) _ Q (by omega) hw.2 (by show t.length + 1 ≤ 50; omega) g1 g2 ⟨sI_at _ _ _ _, rwK_up (Nat.le_refl _) hP.2.2⟩ fun s f => k s (F.tr f)
    · rw [if_neg (by omega), if_pos q] at hw k
      cases K with
      | nil => exact absurd hw.1 (by simp)
      | cons x t =>
        have hl2 : t.length + 1 ≤ 50 := hl
        have e1 : nI (x :: t).length - 1 = nI t.length := nI_pred t.length
        have vt := vp_in_nI (show t.length < 60 by omega) (show 60 < 2 ^ 31 by decide)
        rw [e1, nI_clamp (by omega), show σ.1 172 t.length = x from hP.1, nI_1]
        refine ⟨vt, fun z => ⟨vt, ?_⟩, fun z => ⟨vt, ?_⟩⟩
        · have e : ntV x = 0 := if_neg z
          have k : ∀ s, Fr [172] σ s → Q (some (.int (b01 (!decide ((evN (gC B c) (pfL S.P) n (i + 1) (ntV x :: t)).headD 0 = 0))))) s := k
          rw [e] at k
          have F : Fr [172] σ (sI σ 172 t.length 0) := Fr.rfl.I (by simp)
          obtain ⟨g1, g2⟩ := fk F
          exact c266g hk hkB hc hln n (i + 1) (0 :: t) _ Q (by omega) hw.2 hl2 g1 g2 ⟨sI_at _ _ _ _, rwK_up (Nat.le_refl _) hP.2⟩ fun s f => k s (F.tr f)
        · have e : ntV x = 1 := if_pos z
          have k : ∀ s, Fr [172] σ s → Q (some (.int (b01 (!decide ((evN (gC B c) (pfL S.P) n (i + 1) (ntV x :: t)).headD 0 = 0))))) s := k
          rw [e] at k
          have F : Fr [172] σ (sI σ 172 t.length 1) := Fr.rfl.I (by simp)
          obtain ⟨g1, g2⟩ := fk F
          exact c266g hk hkB hc hln n (i + 1) (1 :: t) _ Q (by omega) hw.2 hl2 g1 g2 ⟨sI_at _ _ _ _, rwK_up (Nat.le_refl _) hP.2⟩ fun s f => k s (F.tr f)
    · rw [if_pos (by omega)] at hw k
      refine c265 hF hk hB hkB hc hi5 (by omega) ⟨_, rfl, vp_in_nI (by omega) (by decide), ?_⟩
      rw [nI_clamp (by omega), nI_1, nI_1]
      have F : Fr [172] σ (sI σ 172 K.length (gC B c (pfL S.P i))) := Fr.rfl.I (by simp)
      obtain ⟨g1, g2⟩ := fk F
      exact c266g hk hkB hc hln n (i + 1) (gC B c (pfL S.P i) :: K) _ Q (by omega) hw.2 hw.1 g1 g2 ⟨sI_at _ _ _ _, rwK_up (Nat.le_refl _) hP⟩ fun s f => k s (F.tr f)
theorem c266 {S : Lw} {c i : Nat} (hF : LwF S σ) (hk : LwOk (bM B) S) (hB : BkR lv B σ) (hkB : BkOk lv B) (hc : c < lv) (hi : i < S.k) (k : ∀ s, Fr [172] σ s → Q (some (.int (b01 (!decide (wrt (gC B c) S i = 0))))) s) : Cm Θ (d + 1) 266 [.ref 124, .int (nI i), .int (nI c)] σ Q := by
  obtain ⟨h1, h2, h3, h4, h5⟩ := hk.2.2 i hi
  have h8 := hk.1.1
  refine K266 (B266_0 ⟨vp_in_nI (by omega) (by decide), ?_⟩)
  rw [nI_clamp (by omega), (hF.2.2 i hi).1.1]
  exact c266g hk hkB hc hi (S.st i - S.bg i) (S.bg i) [] σ Q (by omega) h5 (Nat.zero_le _) hF hB True.intro k
theorem c267 {S : Lw} {c : Nat} (hF : LwF S σ) (hk : LwOk (bM B) S) (hB : BkR lv B σ) (hkB : BkOk lv B) (hc : c < lv) (k : ∀ s, Fr [172] σ s → Q (some (.int (iI (lnE B S c)))) s) : Cm Θ (d + 2) 267 [.ref 124, .int (nI c)] σ Q := by
  have hk8 := hk.1.1
  refine K267 (B267_0 ?_)
  refine loopS (α := Mem) (I := fun i s => Fr [172] σ s ∧ ¬ 0 ≤ fsT i (fun i => !decide (wrt (gC B c) S i = 0))) (P := fun i s => G Θ (d + 1 + 1) 267 2 [some (.ref 124), some (.int (nI c)), some (.int (nI i))] [] s Q) S.k ?_ ?_ σ ⟨Fr.rfl, fun z => absurd (show (0 : Int) ≤ -1 from z) (by decide)⟩
  · intro s ⟨f, hz⟩
    have hF' := LwF_f hF f (by intro x hx; simp; omega)
    refine B267_2 ⟨fun _ => ?_, fun z => absurd (by rw [hF'.1]; exact nI_le (Nat.le_refl _) (by omega)) z⟩
    have hb := fsT_b (f := fun i => !decide (wrt (gC B c) S i = 0)) S.k
    have e : lnE B S c = -1 := by unfold lnE; omega
    have := k s f
    rw [e] at this; exact this
  · intro i s hi ⟨f, hz⟩ ih
    have hF' := LwF_f hF f (by intro x hx; simp; omega)
    have hB' := BkR_fr hB f (by decide)
    refine B267_2 ⟨fun z => absurd z (by rw [hF'.1]; exact nI_ge hi (by omega)), fun _ => ?_⟩
    refine c266 (d := d) hF' hk hB' hkB hc hi fun s2 f2 => ⟨_, rfl, fun z => ?_, fun z => ?_⟩
    · rw [b01_0] at z
      rw [nI_1]
      exact ih s2 ⟨f.tr f2, by rw [fsT_s hz, if_neg (by rw [z]; decide)]; decide⟩
    · rw [b01_n] at z
      have e1 : fsT (i + 1) (fun i => !decide (wrt (gC B c) S i = 0)) = (i : Int) := by rw [fsT_s hz, if_pos z]
      have := k s2 (f.tr f2)
      unfold lnE at this
      rw [fsT_st e1 S.k (by omega), ← iI_nI] at this
      exact this
end lev
