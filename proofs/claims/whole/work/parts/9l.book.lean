/-! CONTRACTS: the class reads a book -/
def rLine (tk : Nat → Tk) (S : Rds) (j : Nat) : Except Fa (Rds × Nat) :=
  if (tk j).1 = 1 ∧ (tk j).2.2 = 1835102827 then rMark tk S j else if (tk j).1 = 1 ∧ (tk j).2.2 = 474148660594 then rNev tk S j else
  if (tk j).1 = 1 ∧ (tk j).2.2 = 1667330917 then rCase tk S j else if (tk j).1 = 1 ∧ (tk j).2.2 = 1953459300 then rTold tk S j else .error (flt 2 (tk j))
def rBook (tk : Nat → Tk) : Nat → Rds → Nat → Nat → Except Fa (Rds × Nat)
  | 0, _, _, _ => .error (0, 0)
  | f + 1, S, k, j => if (tk j).1 = 0 then .ok (S, k) else andT (rLine tk S j) fun a => rBook tk f a.1 (k + 1) a.2
def emR : Rds := ((0, fun _ => 0, fun _ => 0, fun _ => false), (0, fun _ => 0, (fun _ => 0, fun _ => 0, fun _ => 0, fun _ => 0), fun _ _ => 0), (0, fun _ => 0, fun _ => 0, fun _ => 0))
def bkS (S : Rds) : Bk := ((S.m, fun i => jJ ((S.mn i : Nat) : Int), S.mt, fun i => decide (i < S.m) && !S.mv i), (S.c, S.cj, S.cy, S.cg, S.cw, S.cs), (S.t, S.ov, S.un))
noncomputable def agT (B : Bk) : Int := fsT (bT B) (fun t => oV B (bCt B) t (bU B t) (bA B t))
noncomputable def rAll (tk : Nat → Tk) : Except Fa (Rds × Nat) :=
  andT (rBook tk 1302 emR 0 0) fun a => if 0 ≤ agT (bkS a.1) then .error (6, a.1.tp (agT (bkS a.1)).toNat) else .ok a
theorem bkS_ok {S : Rds} (h : RdsOk S) : BkOk S.c (bkS S) := by
  obtain ⟨⟨a1, a2, a3⟩, b, c, e, -⟩ := h
  refine ⟨a1, ⟨Nat.le_refl _, a2⟩, fun m hm => (b m hm).2, fun m hm => ?_, fun i hi => ?_, a3, e⟩
  · have hm : (decide (m < S.m) && !S.mv m) = true := hm
    rw [Bool.and_eq_true, decide_eq_true_eq] at hm; exact hm.1
  · obtain ⟨c1, c2, c3⟩ := c i hi
    exact ⟨c2.1, c2.2.1, c2.2.2.1, c2.2.2.2.1, c2.2.2.2.2, fun m hm => (c3 m (by have : m < S.m := hm; omega)).1 hm⟩
theorem bkS_C {r : Nat} {S : Rds} {st : Nat → Nat} {σ : Mem} (h : RdS r S st σ) (hk : RdsOk S) : BkC r S.c (bkS S) σ := by
  obtain ⟨⟨h1, h2⟩, ⟨a1, a2, a3, a4⟩, ⟨b1, b2, b3, b4, b5, b6⟩, c1, c2⟩ := h
  exact ⟨h1, ⟨a1, a2, a3, a4⟩, ⟨b1, fun k hk => (b3 k hk).1, fun k hk => (b3 k hk).2.1, fun k hk => (b3 k hk).2.2.1, fun k hk => (b3 k hk).2.2.2, fun c m hc hm => b4 c m hc (by have := hk.1.1; have : m < S.m := hm; omega)⟩, c1, fun k hk => (c2 k hk).1, fun k hk => (c2 k hk).2.1⟩
theorem fsT_b {f : Nat → Bool} : ∀ n, -1 ≤ fsT n f ∧ fsT n f < n
  | 0 => ⟨Int.le_refl _, (show (-1 : Int) < 0 by decide)⟩
  | n + 1 => by
    have := fsT_b (f := f) n
    show -1 ≤ (if 0 ≤ fsT n f then fsT n f else if f n = true then (n : Int) else -1) ∧ (if 0 ≤ fsT n f then fsT n f else if f n = true then (n : Int) else -1) < ((n + 1 : Nat) : Int)
    split
    · omega
    · split <;> omega
theorem ok_emR : RdsOk emR := ⟨⟨Nat.zero_le _, Nat.zero_le _, Nat.zero_le _⟩, fun i hi => absurd hi (Nat.not_lt_zero i), fun i hi => absurd hi (Nat.not_lt_zero i), fun i hi => absurd hi (Nat.not_lt_zero i), fun i k hi => absurd hi (Nat.not_lt_zero i), fun i k hi => absurd hi (Nat.not_lt_zero i)⟩
def lsA (r : Nat) : List Nat := 3 :: 4 :: 5 :: 7 :: 8 :: 9 :: lsB r
section rdb
variable {Θ : Th} {d : Nat} {σ : Mem} {Q : Po} {b : Nat → Nat} {n : Nat} {law : Bool} {r : Nat} {S : Rds} {st : Nat → Nat}
theorem lsA_B {σ' : Mem} (h : Fr (lsB r) σ σ') : Fr (lsA r) σ σ' := h.mono fun x hx => by unfold lsA; simp [hx]
theorem c21 {j : Nat} (hn : n ≤ 1300) (hb : ∀ i, b i < 256) (h : TkC b n law j σ) (hS : RdS r S (fun _ => 0) σ) (hk : RdsOk S)
    (KE : ∀ e σ', rLine (tok b n law) S j = .error e → Fr (lsB r) σ σ' → FaC e σ' → Q (some (.int 0)) σ')
    (KO : ∀ S' j' σ', rLine (tok b n law) S j = .ok (S', j') → j < j' → RdsOk S' → Fr (lsB r) σ σ' → TkC b n law j' σ' → RdS r S' (fun _ => 0) σ' → Q (some (.int 1)) σ') : Cm Θ (d + 5) 21 [.ref 9] σ Q := by
  refine K21 (B21_0 ?_)
  rw [w_mark]
  refine ci (fun _ => c110 hn hb h (by decide)) ?_
  by_cases q1 : (tok b n law j).1 = 1 ∧ (tok b n law j).2.2 = 1835102827
  · rw [if_pos q1]
    have e1 : rLine (tok b n law) S j = rMark (tok b n law) S j := if_pos q1
    refine ⟨fun h => absurd h (by decide), fun _ => ?_⟩
    exact c22 (d := d + 1) hn hb h hS hk (fun e s he f t => ⟨_, rfl, Or.inl rfl, KE e s (e1.trans he) f t⟩) fun S' j' s he hj hk' f t hS' => ⟨_, rfl, Or.inr rfl, KO S' j' s (e1.trans he) hj hk' f t hS'⟩
  · rw [if_neg q1]
    refine ⟨fun _ => ?_, fun h => absurd rfl h⟩
    rw [w_never]
    refine ci (fun _ => c110 hn hb h (by decide)) ?_
    by_cases q2 : (tok b n law j).1 = 1 ∧ (tok b n law j).2.2 = 474148660594
    · rw [if_pos q2]
      have e1 : rLine (tok b n law) S j = rNev (tok b n law) S j := by unfold rLine; rw [if_neg q1, if_pos q2]
      refine ⟨fun h => absurd h (by decide), fun _ => ?_⟩
      exact c23 (d := d + 2) hn hb h hS hk (fun e s he f t => ⟨_, rfl, Or.inl rfl, KE e s (e1.trans he) f t⟩) fun S' j' s he hj hk' f t hS' => ⟨_, rfl, Or.inr rfl, KO S' j' s (e1.trans he) hj hk' f t hS'⟩
    · rw [if_neg q2]
      refine ⟨fun _ => ?_, fun h => absurd rfl h⟩
      rw [w_case]
      refine ci (fun _ => c110 hn hb h (by decide)) ?_
      by_cases q3 : (tok b n law j).1 = 1 ∧ (tok b n law j).2.2 = 1667330917
      · rw [if_pos q3]
        have e1 : rLine (tok b n law) S j = rCase (tok b n law) S j := by unfold rLine; rw [if_neg q1, if_neg q2, if_pos q3]
        refine ⟨fun h => absurd h (by decide), fun _ => ?_⟩
        exact c24 (d := d) hn hb h hS hk (fun e s he f t => ⟨_, rfl, Or.inl rfl, KE e s (e1.trans he) f t⟩) fun S' j' s he hj hk' f t hS' => ⟨_, rfl, Or.inr rfl, KO S' j' s (e1.trans he) hj hk' f t hS'⟩
      · rw [if_neg q3]
        refine ⟨fun _ => ?_, fun h => absurd rfl h⟩
        rw [w_told]
        refine ci (fun _ => c110 hn hb h (by decide)) ?_
        by_cases q4 : (tok b n law j).1 = 1 ∧ (tok b n law j).2.2 = 1953459300
        · rw [if_pos q4]
          have e1 : rLine (tok b n law) S j = rTold (tok b n law) S j := by unfold rLine; rw [if_neg q1, if_neg q2, if_neg q3, if_pos q4]
          refine ⟨fun h => absurd h (by decide), fun _ => ?_⟩
          exact c27 (d := d + 2) hn hb h hS hk (fun e s he f t => ⟨_, rfl, Or.inl rfl, KE e s (e1.trans he) f t⟩) fun S' j' s he hj hk' f t hS' => ⟨_, rfl, Or.inr rfl, KO S' j' s (e1.trans he) hj hk' f t hS'⟩
        · rw [if_neg q4]
          refine ⟨fun _ => ?_, fun h => absurd rfl h⟩
          refine c109 (f := 2) hn h fun s f t => ⟨_, rfl, Or.inl rfl, KE _ s ?_ (lsB_1 f) t⟩
          unfold rLine; rw [if_neg q1, if_neg q2, if_neg q3, if_neg q4]
theorem c32 (hS : RdS r S st σ) (hk : RdsOk S) (h0 : σ.1 1 1 = 0 ∧ σ.1 1 2 = -1)
    (KE : ∀ σ', 0 ≤ agT (bkS S) → Fr [1, 7, 8] σ σ' → FaC (6, S.tp (agT (bkS S)).toNat) σ' → Q (some (.int 0)) σ')
    (KO : ∀ σ', ¬ 0 ≤ agT (bkS S) → Fr [7, 8] σ σ' → Q (some (.int 1)) σ') : Cm Θ (d + 3) 32 [.ref 9] σ Q := by
  obtain ⟨ho, hr0, hrr⟩ := RdS_ho hS
  have hr := RdS_r hS
  have hB := bkS_C hS hk
  have hkB := bkS_ok hk
  refine K32 (B32_0 ?_)
  rw [hrr, hS.2.1.2.2.2]
  refine ⟨hr0, ho, hr0, ho, (c76 (d := d) (p := bCt (bkS S)) (Or.inl rfl) hB hkB).mono fun s1 ⟨f1, o1⟩ => ?_⟩
  have hS1 := RdS_fr hS f1 (by intro x hx; simp; omega)
  have hB1 := bkS_C hS1 hk
  rw [(RdS_ho hS1).2.2]
  refine ⟨hr0, ho, (c77 (d := d + 1) o1 hB1 hkB).mono fun v s2 ⟨f2, _, e⟩ => ?_⟩
  have hS2 := RdS_fr hS1 f2 (by intro x hx; simp; omega)
  have e : v = iI (agT (bkS S)) := e
  rw [e]
  have bz : -1 ≤ agT (bkS S) ∧ agT (bkS S) < (S.t : Nat) := fsT_b _
  have ht := hk.1.2.2
  have l : (0 : Int32) ≤ iI (agT (bkS S)) ↔ 0 ≤ agT (bkS S) := iI_le (a := 0) (by omega) (by omega) (by omega) (by omega)
  rw [l]
  have f12 := f1.tr f2
  refine ⟨fun hz => ?_, fun hz => KO s2 hz f12⟩
  obtain ⟨k, hkk⟩ : ∃ k : Nat, agT (bkS S) = k := ⟨(agT (bkS S)).toNat, by omega⟩
  have hk20 : k < S.t := by omega
  rw [hkk, ← iI_nI, nI_clamp (by omega)]
  refine ⟨vp_in_nI (by omega) (by decide), KE _ hz ((f12.mono (by simp)).tr ((Fr.rfl.I (by simp)).I (by simp))) ⟨?_, ?_⟩⟩
  · rw [sI_of _ _ (by omega), sI_at]; rfl
  · rw [sI_at, sI_ne (by decide), hkk]
    exact (hS2.2.2.2.2 k hk20).2.2
theorem RdS_9 {x : Int32} (hS : RdS r S st σ) : RdS r S st (sI σ 9 5 x) := by
  have hr := RdS_r hS
  obtain ⟨⟨h1, h2⟩, ⟨a1, a2, a3, a4⟩, ⟨b1, b2, b3, b4, b5, b6⟩, c1, c2⟩ := hS
  have ox : ∀ y, y ≠ 9 → (sI σ 9 5 x).1 y = σ.1 y := fun y hy => sI_ne hy
  unfold RdS
  rw [ox r (by omega), ox (r + 2) (by omega), ox (r + 3) (by omega), ox (r + 4) (by omega), ox (r + 5) (by omega), ox (r + 6) (by omega), ox (r + 7) (by omega), ox (r + 8) (by omega), ox (r + 9) (by omega), ox 11 (by omega)]
  exact ⟨⟨h1, h2⟩, ⟨a1, a2, a3, a4⟩, ⟨b1, b2, b3, b4, b5, b6⟩, c1, c2⟩
theorem c20g (hn : n ≤ 1300) (hb : ∀ i, b i < 256) : ∀ (f i : Nat) (S : Rds) (j : Nat) (σ : Mem), i + f = 1302 → i ≤ 1300 → i ≤ j → TkC b n law j σ → RdS r S (fun _ => 0) σ → RdsOk S → σ.1 9 5 = nI i →
    (∀ e σ', rBook (tok b n law) f S i j = .error e → Fr (lsA r) σ σ' → FaC e σ' → Q (some (.int 0)) σ') →
    (∀ S' k σ', rBook (tok b n law) f S i j = .ok (S', k) → 0 ≤ agT (bkS S') → Fr (lsA r) σ σ' → FaC (6, S'.tp (agT (bkS S')).toNat) σ' → Q (some (.int 0)) σ') →
    (∀ S' k σ', rBook (tok b n law) f S i j = .ok (S', k) → ¬ 0 ≤ agT (bkS S') → k ≤ 1300 → RdsOk S' → Fr (lsA r) σ σ' → RdS r S' (fun _ => 0) σ' → σ'.1 9 5 = nI k → σ'.1 1 1 = 0 → σ'.1 1 2 = -1 → Q (some (.int 1)) σ') →
    G Θ (d + 6) 20 27 [some (.ref 9), none, some (.int (nI i))] [] σ Q
  | 0, i, S, j, σ, hi, hi', hij, h, hS, hk, h9, KE, KA, KO => by omega
  | f + 1, i, S, j, σ, hi, hi', hij, h, hS, hk, h9, KE, KA, KO => by
    have b4 := (tok_b (law := law) (b := b) hn j).1
    have hr := RdS_r hS
    have l : nI (tok b n law j).1 = 0 ↔ (tok b n law j).1 = 0 := kd_eq (c := 0) b4 (by omega)
    refine B20_27 ⟨fun q => absurd q (nI_nlt (a := 1300) hi' (by omega)), fun _ => ?_⟩
    rw [h.2.2.2.1, l]
    refine ⟨fun hz => ?_, fun hz => ?_⟩
    · have eB : rBook (tok b n law) (f + 1) S i j = .ok (S, i) := if_pos hz
      have f78 : ∀ {s s' : Mem}, Fr [7, 8] s s' → Fr (lsA r) s s' := fun g => g.mono fun x hx => by simp at hx; unfold lsA; simp; omega
      refine c32 (d := d + 2) hS hk h.2.1 (fun s hag fr fa => ⟨_, rfl, Or.inl rfl, KA S i s eB hag (fr.mono fun x hx => by simp at hx; unfold lsA lsB; simp; omega) fa⟩) fun s hag fr => ⟨_, rfl, Or.inr rfl, KO S i s eB hag hi' hk (f78 fr) (RdS_fr hS fr (by intro x hx; simp; omega)) ?_ ?_ ?_⟩
      · rw [(fr 9 (by decide)).1]; exact h9
      · rw [(fr 1 (by decide)).1]; exact h.2.1.1
      · rw [(fr 1 (by decide)).1]; exact h.2.1.2
    · have eB : rBook (tok b n law) (f + 1) S i j = andT (rLine (tok b n law) S j) fun a => rBook (tok b n law) f a.1 (i + 1) a.2 := if_neg hz
      obtain ⟨T, hT, -⟩ := h.2.2.1
      have hTj : j < T := by
        rcases Nat.lt_or_ge j T with q | q
        · exact q
        · have := tok_ends hn hT.2.1 (j - T)
          rw [show T + (j - T) = j by omega] at this
          rw [this] at hz; exact absurd hT.2.1 hz
      have hTn := hT.1
      refine c21 (d := d) hn hb h hS hk (fun e s he fr t => ⟨_, rfl, fun h => absurd rfl h, fun _ => KE e s ?_ (lsA_B fr) t⟩) fun S' j' s he hj hk' fr t hS' => ⟨_, rfl, fun _ => ?_, fun h => absurd h (by decide)⟩
      · rw [eB, andT_er he]
      have e9 : s.1 9 5 = nI i := by rw [(fr 9 (by unfold lsB; simp; omega)).1]; exact h9
      rw [e9, nI_1]
      have eR : rBook (tok b n law) (f + 1) S i j = rBook (tok b n law) f S' (i + 1) j' := by rw [eB, andT_ok he]
      have fr9 : Fr (lsA r) s (sI s 9 5 (nI (i + 1))) := Fr.rfl.I (by unfold lsA; simp)
      have fA := (lsA_B fr).tr fr9
      refine c20g hn hb f (i + 1) S' j' _ (by omega) (by omega) (by omega) (TkC_fr (ls := [9]) t (Fr.rfl.I (by simp)) (by intro x h1 h2; simp; omega)) (RdS_9 hS') hk' (sI_at _ _ _ _) (fun e s' he' f' t' => KE e s' (by rw [eR]; exact he') (fA.tr f') t') (fun S'' k s' he' hag f' t' => KA S'' k s' (by rw [eR]; exact he') hag (fA.tr f') t') fun S'' k s' he' hag hk13 hk'' f' hS'' h9' h1 h2 => KO S'' k s' (by rw [eR]; exact he') hag hk13 hk'' (fA.tr f') hS'' h9' h1 h2
theorem c20 (hn : n ≤ 1300) (hb : ∀ i, b i < 256) (hr : r = 12 ∨ r = 22) (hT : TpC b n σ)
    (KE : ∀ e σ', rAll (tok b n false) = .error e → Fr (lsA r) σ σ' → FaC e σ' → Q (some (.int 0)) σ')
    (KO : ∀ S k σ', rAll (tok b n false) = .ok (S, k) → k ≤ 1300 → RdsOk S → Fr (lsA r) σ σ' → RdS r S (fun _ => 0) σ' → σ'.1 9 5 = nI k → σ'.1 1 1 = 0 → σ'.1 1 2 = -1 → Q (some (.int 1)) σ') : Cm Θ (d + 6) 20 [.ref 9, .ref r] σ Q := by
  have ho := bk_s hr
  have hr0 : r ≠ 0 := by omega
  have e92 : (sR σ 9 2 r).2.2 9 2 = r := by simp [sR]
  refine K20 (B20_0 ho ?_)
  rw [e92]
  refine ⟨hr0, hr0, ho, K6 (B6_0 ho ?_)⟩
  have hq : shq (r + 7) = (20, 102) := by rcases hr with q | q <;> (rw [q]; rfl)
  obtain ⟨s0, hs0⟩ : ∃ s0, s0 = sI (sI (sI (sI (sR σ 9 2 r) r 0 0) r 3 0) r 4 0) r 10 0 := ⟨_, rfl⟩
  rw [← hs0]
  refine (c292 hq (by decide)).mono fun s1 ⟨f1, z1⟩ => ⟨rfl, ?_⟩
  have g0 : ∀ x, x ≠ r → s0.1 x = σ.1 x := fun x hx => by rw [hs0, sI_ne hx, sI_ne hx, sI_ne hx, sI_ne hx]; rfl
  have gr := (f1 r (by simp)).1
  have fr0 : Fr [9, r] σ s0 := by rw [hs0]; exact ((((Fr.rfl.R (by simp)).I (by simp)).I (by simp)).I (by simp)).I (by simp)
  have hS1 : RdS r emR (fun _ => 0) s1 := by
    refine ⟨⟨hr, ?_⟩, ⟨?_, fun i hi => absurd hi (Nat.not_lt_zero i), fun i hi => absurd hi (Nat.not_lt_zero i), ?_⟩, ⟨?_, fun i hi => absurd hi (Nat.not_lt_zero i), fun i hi => absurd hi (Nat.not_lt_zero i), fun i m hi => absurd hi (Nat.not_lt_zero i), fun m hm => ?_, fun k hk hk' => z1 k hk'⟩, ?_, fun i hi => absurd hi (Nat.not_lt_zero i)⟩
    · rw [(f1 9 (by simp; omega)).2.2, hs0]; exact e92
    · rw [gr, hs0, sI_of _ _ (by omega), sI_of _ _ (by omega), sI_of _ _ (by omega), sI_at]; rfl
    · rw [gr, hs0, sI_of _ _ (by omega), sI_of _ _ (by omega), sI_at, sX_0]
      exact sX_congr fun k hk => by show false = (decide (k < 0) && _); simp
    · rw [gr, hs0, sI_of _ _ (by omega), sI_at]; rfl
    · exact z1 _ (by show 6 * 0 + m < 102; omega)
    · rw [gr, hs0, sI_at]; rfl
  have hS2 := RdS_9 (x := 0) hS1
  have f2 : Fr [9] s1 (sI s1 9 5 0) := Fr.rfl.I (by simp)
  have hT2 : TpC b n (sI s1 9 5 0) := by
    refine ⟨?_, fun i hi => ?_⟩
    · rw [sI_ne (by decide), (f1 1 (by simp)).1, g0 1 (by omega)]; exact hT.1
    · rw [sI_ne (by decide), (f1 2 (by simp)).1, g0 2 (by omega)]; exact hT.2 i hi
  refine c101 (d := d) (law := false) hn hb hT2 fun s3 f3 t3 => ⟨rfl, ?_⟩
  have hS3 := RdS_fr hS2 f3 (by intro x hx; simp; omega)
  have e9 : s3.1 9 5 = nI 0 := by rw [(f3 9 (by decide)).1, sI_at]; rfl
  have mA : ∀ {ls : List Nat} {s s' : Mem}, Fr ls s s' → (∀ x, x ∈ ls → x = 1 ∨ x = 3 ∨ x = 4 ∨ x = 5 ∨ x = 9 ∨ x = r ∨ x = r + 7) → Fr (lsA r) s s' := fun g hl => g.mono fun x hx => by
    have := hl x hx; unfold lsA lsB; simp; omega
  have fA : Fr (lsA r) σ s3 := (mA fr0 (by intro x hx; simp at hx; omega)).tr ((mA f1 (by intro x hx; simp at hx; omega)).tr ((mA f2 (by intro x hx; simp at hx; omega)).tr (mA f3 (by intro x hx; simp at hx; omega))))
  refine c20g (d := d) hn hb 1302 0 emR 0 s3 rfl (by omega) (Nat.le_refl _) t3 hS3 ok_emR e9 (fun e s he f t => KE e s ?_ (fA.tr f) t) (fun S' k s he hag f t => KE _ s ?_ (fA.tr f) t) fun S' k s he hag hk13 hk' f hS' h9 h1 h2 => KO S' k s ?_ hk13 hk' (fA.tr f) hS' h9 h1 h2
  · unfold rAll; rw [andT_er he]
  · unfold rAll; rw [andT_ok he, if_pos hag]
  · unfold rAll; rw [andT_ok he, if_neg hag]
end rdb
