/-! CONTRACTS: the class's reader: a line of a case -/
def rFacts (tk : Nat → Tk) (j : Nat) : Except Fa ((Nat × Nat × Nat × Nat) × Nat) :=
  andT (rWN tk 457236047717 0 9 j) fun a => andT (rWN tk 26990 0 99 a.2) fun c => andT (rWN tk 444150998382 0 240 c.2) fun e => andT (rWN tk 131277443786868 1 4 e.2) fun f => .ok ((a.1, c.1, e.1, f.1), f.2)
def rSteps (tk : Nat → Tk) (S : Rds) : Nat → (Nat → Bool) → (Nat → Nat) → Nat → Except Fa ((Nat → Nat) × Nat)
  | 0, _, _, _ => .error (0, 0)
  | f + 1, told, st, j => if (tk j).1 = 3 ∧ (tk j).2.2 = 59 then .ok (st, j + 1) else
      andT (rMk tk S j) fun m => if told m = true then .error (flt 3 (tk j)) else andT (rN tk 0 (S.mt m) (j + 1)) fun a => rSteps tk S f (upN told m true) (upN st m a.1) a.2
def rCase (tk : Nat → Tk) (S : Rds) (j : Nat) : Except Fa (Rds × Nat) :=
  if 16 ≤ S.c then .error (flt 2 (tk j)) else andT (rNew tk S (j + 1)) fun a => andT (rFacts tk a.2) fun c => andT (rSteps tk S 8 (fun _ => false) (fun _ => 0) c.2) fun e => .ok (addC S a.1 c.1 e.1, e.2)
section cas
variable {Θ : Th} {d : Nat} {σ : Mem} {Q : Po} {b : Nat → Nat} {n : Nat} {law : Bool} {r : Nat} {S : Rds} {st : Nat → Nat}
/-- what a case's row holds -/
def RoC (r c : Nat) (f : Nat × Nat × Nat × Nat) (σ : Mem) : Prop := σ.1 (r + 3) c = nI f.1 ∧ σ.1 (r + 4) c = nI f.2.1 ∧ σ.1 (r + 5) c = nI f.2.2.1 ∧ σ.1 (r + 6) c = nI f.2.2.2
theorem c9 {f : Nat × Nat × Nat × Nat} (hS : RdS r S st σ) (hc : S.c < 16) (K : ∀ σ', Fr [r + 3, r + 4, r + 5, r + 6] σ σ' → RdS r S st σ' → RoC r S.c f σ' → Q none σ') : Cm Θ d 9 [.ref r, .int (nI S.c), .int (nI f.1), .int (nI f.2.1), .int (nI f.2.2.1), .int (nI f.2.2.2)] σ Q := by
  obtain ⟨ho, hr0, hrr⟩ := RdS_ho hS
  have hr := RdS_r hS
  have vm : vp_in (nI S.c) 16 := vp_in_nI hc (by decide)
  refine K9 (B9_0 ho ⟨vm, vm, vm, vm, ?_⟩)
  rw [nI_clamp (by omega)]
  obtain ⟨s, hs⟩ : ∃ s, s = sI (sI (sI (sI σ (r + 3) S.c (nI f.1)) (r + 4) S.c (nI f.2.1)) (r + 5) S.c (nI f.2.2.1)) (r + 6) S.c (nI f.2.2.2) := ⟨_, rfl⟩
  rw [← hs]
  have ff : Fr [r + 3, r + 4, r + 5, r + 6] σ s := by rw [hs]; exact (((Fr.rfl.I (by simp)).I (by simp)).I (by simp)).I (by simp)
  have ox : ∀ x, x ≠ r + 3 → x ≠ r + 4 → x ≠ r + 5 → x ≠ r + 6 → s.1 x = σ.1 x := fun x q1 q2 q3 q4 => by
    rw [hs, sI_ne q4, sI_ne q3, sI_ne q2, sI_ne q1]
  have oi : ∀ x i, i ≠ S.c → s.1 x i = σ.1 x i := fun x i q => by
    rw [hs, sI_of _ _ (by omega), sI_of _ _ (by omega), sI_of _ _ (by omega), sI_of _ _ (by omega)]
  have oL : s.2 = σ.2 := by rw [hs]; rfl
  refine K s ff ?_ ⟨?_, ?_, ?_, ?_⟩
  · obtain ⟨⟨h1, h2⟩, ⟨a1, a2, a3, a4⟩, ⟨b1, b2, b3, b4, b5, b6⟩, c1, c2⟩ := hS
    unfold RdS
    rw [oL, ox r (by omega) (by omega) (by omega) (by omega), ox (r + 2) (by omega) (by omega) (by omega) (by omega), ox (r + 7) (by omega) (by omega) (by omega) (by omega), ox (r + 8) (by omega) (by omega) (by omega) (by omega), ox (r + 9) (by omega) (by omega) (by omega) (by omega), ox 11 (by omega) (by omega) (by omega) (by omega)]
    refine ⟨⟨h1, h2⟩, ⟨a1, a2, a3, a4⟩, ⟨b1, b2, fun i hi => ?_, b4, b5, b6⟩, c1, c2⟩
    rw [oi _ _ (by omega), oi _ _ (by omega), oi _ _ (by omega), oi _ _ (by omega)]
    exact b3 i hi
  · rw [hs, sI_of _ _ (by omega), sI_of _ _ (by omega), sI_of _ _ (by omega), sI_at]
  · rw [hs, sI_of _ _ (by omega), sI_of _ _ (by omega), sI_at]
  · rw [hs, sI_of _ _ (by omega), sI_at]
  · rw [hs, sI_at]
theorem c25 {j : Nat} (hn : n ≤ 1300) (hb : ∀ i, b i < 256) (h : TkC b n law j σ) (hS : RdS r S st σ) (hc : S.c < 16)
    (KE : ∀ e σ', rFacts (tok b n law) j = .error e → Fr (lsB r) σ σ' → FaC e σ' → Q (some (.int 0)) σ')
    (KO : ∀ f σ', rFacts (tok b n law) j = .ok (f, j + 2 + 2 + 2 + 2) → (f.1 ≤ 9 ∧ f.2.1 ≤ 99 ∧ f.2.2.1 ≤ 240 ∧ 1 ≤ f.2.2.2 ∧ f.2.2.2 ≤ 4) → Fr (lsB r) σ σ' → TkC b n law (j + 2 + 2 + 2 + 2) σ' → RdS r S st σ' → RoC r S.c f σ' → Q (some (.int 1)) σ') : Cm Θ (d + 3) 25 [.ref 9] σ Q := by
  obtain ⟨ho, hr0, hrr⟩ := RdS_ho hS
  have hr := RdS_r hS
  have ge : ∀ v : Nat, v < 1000 → (0 : Int32) ≤ nI v := fun v hv => nI_le (a := 0) (Nat.zero_le v) (by omega)
  refine K25 (B25_0 ?_)
  rw [w_judge]
  refine c116 (d := d) (lo := 0) (hi := 9) hn hb h (by decide) (by decide) (by decide) (fun e s1 he f1 t1 => ⟨_, rfl, fun h => absurd h (by decide), fun _ => KE e s1 ?_ (lsB_1 f1) t1⟩) fun s1 v1 e1 l1 l1' f1 t1 => ⟨_, rfl, fun _ => ?_, fun h => absurd (ge v1 (by omega)) h⟩
  · unfold rFacts; rw [andT_er he]
  rw [w_in]
  refine c116 (d := d) (lo := 0) (hi := 99) hn hb t1 (by decide) (by decide) (by decide) (fun e s2 he f2 t2 => ⟨_, rfl, fun h => absurd h (by decide), fun _ => KE e s2 ?_ (lsB_1 (f1.tr f2)) t2⟩) fun s2 v2 e2 l2 l2' f2 t2 => ⟨_, rfl, fun _ => ?_, fun h => absurd (ge v2 (by omega)) h⟩
  · unfold rFacts; rw [andT_ok e1, andT_er he]
  rw [w_given]
  refine c116 (d := d) (lo := 0) (hi := 240) hn hb t2 (by decide) (by decide) (by decide) (fun e s3 he f3 t3 => ⟨_, rfl, fun h => absurd h (by decide), fun _ => KE e s3 ?_ (lsB_1 ((f1.tr f2).tr f3)) t3⟩) fun s3 v3 e3 l3 l3' f3 t3 => ⟨_, rfl, fun _ => ?_, fun h => absurd (ge v3 (by omega)) h⟩
  · unfold rFacts; rw [andT_ok e1, andT_ok e2, andT_er he]
  rw [w_weight]
  refine c116 (d := d) (lo := 1) (hi := 4) hn hb t3 (by decide) (by decide) (by decide) (fun e s4 he f4 t4 => ⟨_, rfl, fun h => absurd h (by decide), fun _ => KE e s4 ?_ (lsB_1 (((f1.tr f2).tr f3).tr f4)) t4⟩) fun s4 v4 e4 l4 l4' f4 t4 => ⟨_, rfl, fun _ => ?_, fun h => absurd (ge v4 (by omega)) h⟩
  · unfold rFacts; rw [andT_ok e1, andT_ok e2, andT_ok e3, andT_er he]
  have hS4 := RdS_1 (RdS_1 (RdS_1 (RdS_1 hS f1) f2) f3) f4
  rw [(RdS_ho hS4).2.2, hS4.2.2.1.1]
  refine ⟨hr0, ho, hr0, ho, c9 (f := (v1, v2, v3, v4)) hS4 hc fun s5 f5 hS5 hR => ⟨rfl, KO (v1, v2, v3, v4) s5 ?_ ⟨l1', l2', l3', l4, l4'⟩ ((lsB_1 (((f1.tr f2).tr f3).tr f4)).tr (lsB_r f5 ?_)) (TkC_fr t4 f5 ?_) hS5 hR⟩⟩
  · unfold rFacts; rw [andT_ok e1, andT_ok e2, andT_ok e3, andT_ok e4]
  · intro x hx; simp at hx; omega
  · intro x h1 h2; simp; omega
theorem RdS_st {m v : Nat} (hS : RdS r S st σ) (hm : m < 6) : RdS r S (upN st m v) (sI σ (r + 7) (6 * S.c + m) (nI v)) := by
  have hr := RdS_r hS
  obtain ⟨⟨h1, h2⟩, ⟨a1, a2, a3, a4⟩, ⟨b1, b2, b3, b4, b5, b6⟩, c1, c2⟩ := hS
  obtain ⟨s, hs⟩ : ∃ s, s = sI σ (r + 7) (6 * S.c + m) (nI v) := ⟨_, rfl⟩
  rw [← hs]
  have ox : ∀ x, x ≠ r + 7 → s.1 x = σ.1 x := fun x hx => by rw [hs]; exact sI_ne hx
  have oL : s.2 = σ.2 := by rw [hs]; rfl
  have o7 : ∀ k, k ≠ 6 * S.c + m → s.1 (r + 7) k = σ.1 (r + 7) k := fun k hk => by rw [hs, sI_of _ _ (by omega)]
  unfold RdS
  rw [oL, ox r (by omega), ox (r + 2) (by omega), ox (r + 3) (by omega), ox (r + 4) (by omega), ox (r + 5) (by omega), ox (r + 6) (by omega), ox (r + 8) (by omega), ox (r + 9) (by omega), ox 11 (by omega)]
  refine ⟨⟨h1, h2⟩, ⟨a1, a2, a3, a4⟩, ⟨b1, b2, b3, fun i k hi hk => ?_, fun k hk => ?_, fun k hk hk' => ?_⟩, c1, c2⟩
  · rw [o7 _ (by omega)]; exact b4 i k hi hk
  · by_cases z : k = m
    · rw [z, hs, sI_at, upN_at]
    · rw [o7 _ (by omega), upN_ne z]; exact b5 k hk
  · rw [o7 _ (by omega)]; exact b6 k hk hk'
theorem c26g (hn : n ≤ 1300) (hb : ∀ i, b i < 256) (hk : RdsOk S) : ∀ (f i : Nat) (told : Nat → Bool) (st : Nat → Nat) (j : Nat) (σ : Mem), i + f = 8 → i ≤ cN 6 told → (∀ m, told m = true → m < S.m) → (∀ m, m < 6 → (m < S.m → st m ≤ S.mt m) ∧ (S.m ≤ m → st m = 0)) → TkC b n law j σ → RdS r S st σ → S.c < 16 →
    (∀ e σ', rSteps (tok b n law) S f told st j = .error e → Fr [1, r + 7] σ σ' → FaC e σ' → Q (some (.int 0)) σ') →
    (∀ st' j' σ', rSteps (tok b n law) S f told st j = .ok (st', j') → j < j' → (∀ m, m < 6 → (m < S.m → st' m ≤ S.mt m) ∧ (S.m ≤ m → st' m = 0)) → Fr [1, r + 7] σ σ' → TkC b n law j' σ' → RdS r S st' σ' → Q (some (.int 1)) σ') →
    G Θ (d + 2) 26 4 [some (.ref 9), some (.int (sX told)), some (.int (nI i)), none, none] [] σ Q
  | 0, i, told, st, j, σ, hi, hc, ht, hst, h, hS, hc16, KE, KO => by
    have := cN_max told 6
    omega
  | f + 1, i, told, st, j, σ, hi, hc, ht, hst, h, hS, hc16, KE, KO => by
    have hc6 := cN_max told 6
    have hm6 := hk.1.1
    have hr := RdS_r hS
    obtain ⟨ho, hr0, hrr⟩ := RdS_ho hS
    have f1r : ∀ {s s' : Mem}, Fr [1] s s' → Fr [1, r + 7] s s' := fun g => g.mono (by simp)
    refine B26_4 ⟨fun q => absurd q (nI_nlt (a := 6) (by omega) (by omega)), fun _ => ?_⟩
    refine ci (fun _ => c111 (w := 59) hn hb h (by decide)) ?_
    by_cases q : (tok b n law j).1 = 3 ∧ (tok b n law j).2.2 = 59
    · rw [if_pos q]
      refine ⟨fun _ => ?_, fun h => absurd h (by decide)⟩
      refine c114 (d := d) (w := 59) hn hb h (by decide) (fun e s he f t => ?_) fun s he f' t => ⟨_, rfl, Or.inr rfl, KO st (j + 1) s ?_ (by omega) hst (f1r f') t (RdS_1 hS f')⟩
      · unfold rG at he; rw [if_pos q] at he; cases he
      · show (if (tok b n law j).1 = 3 ∧ (tok b n law j).2.2 = 59 then _ else _) = _
        rw [if_pos q]
    · rw [if_neg q]
      have eU : rSteps (tok b n law) S (f + 1) told st j = andT (rMk (tok b n law) S j) fun m => if told m = true then .error (flt 3 (tok b n law j)) else andT (rN (tok b n law) 0 (S.mt m) (j + 1)) fun a => rSteps (tok b n law) S f (upN told m true) (upN st m a.1) a.2 := if_neg q
      refine ⟨fun h => absurd rfl h, fun _ => ?_⟩
      refine c29 (d := d) hn hb h hS hk (fun e s he f' t => ⟨_, rfl, fun h => absurd h (by decide), fun _ => KE e s ?_ (f1r f') t⟩) fun m he hm => ⟨_, rfl, fun _ => ?_, fun h => absurd (nI_le (a := 0) (Nat.zero_le m) (by omega)) h⟩
      · rw [eU, andT_er he]
      rw [sX_shr told (by omega)]
      refine ⟨fun h0 => ?_, fun h1 => ?_⟩
      · have hto : told m = false := b01_0.mp h0
        refine c102 hn h fun s1 f1 t1 => ⟨rfl, ?_⟩
        have hS1 := RdS_1 hS f1
        dsimp only
        have hm11 := (hk.2.1 m hm).2.2
        rw [(RdS_ho hS1).2.2, nI_clamp (by omega), hS1.2.1.2.2.1 m hm]
        refine ⟨hr0, ho, vp_in_nI (by omega) (by decide), ?_⟩
        refine c115 (d := d) (lo := 0) hn hb t1 (by decide) (by omega) (fun e s2 he2 f2 t2 => ⟨_, rfl, fun h => absurd h (by decide), fun _ => KE e s2 ?_ (f1r (f1.tr f2)) t2⟩) fun s2 v he2 lv lv' f2 t2 => ⟨_, rfl, fun _ => ?_, fun h => absurd (nI_le (a := 0) (Nat.zero_le v) (by omega)) h⟩
        · rw [eU, andT_ok he, if_neg (by rw [hto]; decide), andT_er he2]
        have hS2 := RdS_1 hS1 f2
        rw [(RdS_ho hS2).2.2, hS2.2.2.1.1]
        refine ⟨hr0, ho, hr0, ho, ?_⟩
        refine K16 (B16_0 ho ⟨by rw [ix6]; exact vp_in_nI (by omega) (by decide), ⟨rfl, ?_⟩⟩)
        rw [ix6, nI_clamp (by omega), sX_add1 told (by omega), nI_1]
        have hS3 := RdS_st (m := m) (v := v) hS2 (by omega)
        have f3 : Fr [1, r + 7] s2 (sI s2 (r + 7) (6 * S.c + m) (nI v)) := Fr.rfl.I (by simp)
        have t3 := TkC_fr (ls := [r + 7]) (σ' := sI s2 (r + 7) (6 * S.c + m) (nI v)) t2 (Fr.rfl.I (by simp)) (by intro x h1 h2; simp; omega)
        have eX : sX (fun k => told k || decide (k = m)) = sX (upN told m true) := sX_congr fun k hk => by
          by_cases z : k = m
          · rw [z, upN_at]; simp
          · rw [upN_ne z]; simp [z]
        rw [eX]
        have eR : rSteps (tok b n law) S (f + 1) told st j = rSteps (tok b n law) S f (upN told m true) (upN st m v) (j + 1 + 1) := by
          rw [eU, andT_ok he, if_neg (by rw [hto]; decide), andT_ok he2]
        refine c26g hn hb hk f (i + 1) (upN told m true) (upN st m v) (j + 1 + 1) _ (by omega) ?_ (fun k hk' => ?_) (fun k hk' => ?_) t3 hS3 hc16 (fun e s' he' f' t' => KE e s' (by rw [eR]; exact he') ((f1r (f1.tr f2)).tr (f3.tr f')) t') fun st' j' s' he' hj hst' f' t' hS' => KO st' j' s' (by rw [eR]; exact he') (by omega) hst' ((f1r (f1.tr f2)).tr (f3.tr f')) t' hS'
        · have : cN 6 told < cN 6 (upN told m true) := cN_lt 6 (fun k _ hp => by
            by_cases z : k = m
            · rw [z, upN_at]
            · rw [upN_ne z]; exact hp) ⟨m, by omega, hto, upN_at⟩
          omega
        · by_cases z : k = m
          · rw [z]; exact hm
          · rw [upN_ne z] at hk'; exact ht k hk'
        · by_cases z : k = m
          · rw [z, upN_at]; exact ⟨fun _ => lv', fun h => by omega⟩
          · rw [upN_ne z]; exact hst k hk'
      · have hto : told m = true := b01_n.mp h1
        refine c109 (f := 3) hn h fun s f' t => ⟨_, rfl, Or.inl rfl, KE _ s ?_ (f1r f') t⟩
        rw [eU, andT_ok he, if_pos hto]
theorem c26 {j : Nat} (hn : n ≤ 1300) (hb : ∀ i, b i < 256) (h : TkC b n law j σ) (hS : RdS r S (fun _ => 0) σ) (hk : RdsOk S) (hc : S.c < 16)
    (KE : ∀ e σ', rSteps (tok b n law) S 8 (fun _ => false) (fun _ => 0) j = .error e → Fr [1, r + 7] σ σ' → FaC e σ' → Q (some (.int 0)) σ')
    (KO : ∀ st' j' σ', rSteps (tok b n law) S 8 (fun _ => false) (fun _ => 0) j = .ok (st', j') → j < j' → (∀ m, m < 6 → (m < S.m → st' m ≤ S.mt m) ∧ (S.m ≤ m → st' m = 0)) → Fr [1, r + 7] σ σ' → TkC b n law j' σ' → RdS r S st' σ' → Q (some (.int 1)) σ') : Cm Θ (d + 2) 26 [.ref 9] σ Q := by
  refine K26 (B26_0 ?_)
  have := c26g (Θ := Θ) (d := d) hn hb hk 8 0 (fun _ => false) (fun _ => 0) j σ rfl (Nat.zero_le _) (fun m h => by cases h) (fun m _ => ⟨fun _ => Nat.zero_le _, fun _ => rfl⟩) h hS hc KE KO
  rw [← sX_0] at this
  exact this
theorem RdS_addC {w : Nat} {f : Nat × Nat × Nat × Nat} (hS : RdS r S st σ) (hc : S.c < 16) (hR : RoC r S.c f σ) : RdS r (addC S w f st) (fun _ => 0) (sI (sL σ 10 S.c (jJ ((w : Nat) : Int))) r 4 (nI (S.c + 1))) := by
  have hr := RdS_r hS
  obtain ⟨⟨h1, h2⟩, ⟨a1, a2, a3, a4⟩, ⟨b1, b2, b3, b4, b5, b6⟩, c1, c2⟩ := hS
  obtain ⟨s, hs⟩ : ∃ s, s = sI (sL σ 10 S.c (jJ ((w : Nat) : Int))) r 4 (nI (S.c + 1)) := ⟨_, rfl⟩
  rw [← hs]
  have ox : ∀ x, x ≠ r → s.1 x = σ.1 x := fun x hx => by rw [hs, sI_ne hx]; rfl
  have o0 : ∀ k, k ≠ 4 → s.1 r k = σ.1 r k := fun k hk => by rw [hs, sI_of _ _ (by omega)]; rfl
  have oR : s.2.2 = σ.2.2 := by rw [hs]; rfl
  have oL : ∀ x k, ¬ (x = 10 ∧ k = S.c) → s.2.1 x k = σ.2.1 x k := fun x k q => by rw [hs, sI_L, sL_of _ _ q]
  refine ⟨⟨h1, by rw [oR]; exact h2⟩, ⟨by rw [o0 _ (by omega)]; exact a1, fun i hi => by rw [oL _ _ (by omega)]; exact a2 i hi, by rw [ox _ (by omega)]; exact a3, by rw [o0 _ (by omega)]; exact a4⟩, ⟨by rw [hs, sI_at]; rfl, fun i hi => ?_, fun i hi => ?_, fun i m hi hm => ?_, fun m hm => ?_, fun k hk hk' => ?_⟩, by rw [o0 _ (by omega)]; exact c1, ?_⟩
  · have hi : i < S.c + 1 := hi
    show s.2.1 10 i = jJ ((upN S.cn S.c w i : Nat) : Int)
    by_cases z : i = S.c
    · rw [z, upN_at, hs, sI_L, sL_at]
    · rw [oL _ _ (by omega), upN_ne z]; exact b2 i (by omega)
  · have hi : i < S.c + 1 := hi
    show s.1 (r + 3) i = nI (upN S.cj S.c f.1 i) ∧ s.1 (r + 4) i = nI (upN S.cy S.c f.2.1 i) ∧ s.1 (r + 5) i = nI (upN S.cg S.c f.2.2.1 i) ∧ s.1 (r + 6) i = nI (upN S.cw S.c f.2.2.2 i)
    rw [ox _ (by omega), ox _ (by omega), ox _ (by omega), ox _ (by omega)]
    by_cases z : i = S.c
    · rw [z, upN_at, upN_at, upN_at, upN_at]; exact hR
    · rw [upN_ne z, upN_ne z, upN_ne z, upN_ne z]; exact b3 i (by omega)
  · have hi : i < S.c + 1 := hi
    show s.1 (r + 7) (6 * i + m) = nI (upN S.cs S.c st i m)
    rw [ox _ (by omega)]
    by_cases z : i = S.c
    · rw [z, upN_at]; exact b5 m hm
    · rw [upN_ne z]; exact b4 i m (by omega) hm
  · show s.1 (r + 7) (6 * (S.c + 1) + m) = nI 0
    rw [ox _ (by omega)]
    exact b6 _ (by omega) (by omega)
  · have hk : 6 * (S.c + 1) + 6 ≤ k := hk
    rw [ox _ (by omega)]
    exact b6 _ (by omega) hk'
  · rw [ox _ (by omega), ox _ (by omega), ox 11 (by omega)]; exact c2
theorem c24 {j : Nat} (hn : n ≤ 1300) (hb : ∀ i, b i < 256) (h : TkC b n law j σ) (hS : RdS r S (fun _ => 0) σ) (hk : RdsOk S)
    (KE : ∀ e σ', rCase (tok b n law) S j = .error e → Fr (lsB r) σ σ' → FaC e σ' → Q (some (.int 0)) σ')
    (KO : ∀ S' j' σ', rCase (tok b n law) S j = .ok (S', j') → j < j' → RdsOk S' → Fr (lsB r) σ σ' → TkC b n law j' σ' → RdS r S' (fun _ => 0) σ' → Q (some (.int 1)) σ') : Cm Θ (d + 4) 24 [.ref 9] σ Q := by
  obtain ⟨ho, hr0, hrr⟩ := RdS_ho hS
  have hr := RdS_r hS
  refine K24 (B24_0 ?_)
  have l16 : nI S.c < 16 ↔ S.c < 16 := nI_ltI (b := 16) (by have := hk.1.2.1; omega) (by omega)
  rw [hrr, hS.2.2.1.1, l16]
  refine ⟨hr0, ho, fun hlt => ?_, fun hge => ?_⟩
  · refine c102 hn h fun s1 f1 t1 => ⟨rfl, ?_⟩
    have hS1 := RdS_1 hS f1
    refine c28 (d := d + 2) hn hb t1 hS1 hk (fun e s2 he f2 t2 => ⟨_, rfl, fun _ => KE e s2 ?_ (lsB_1 (f1.tr f2)) t2, fun h => absurd (by decide) h⟩) fun s2 v he hv hv' f2 t2 => ⟨_, rfl, fun h => absurd h (jJ_ne0 hv hv'), fun _ => ?_⟩
    · unfold rCase; rw [if_neg (by omega), andT_er he]
    have hS2 := RdS_1 hS1 f2
    have f12 := lsB_1 (r := r) (f1.tr f2)
    refine c25 (d := d) hn hb t2 hS2 hlt (fun e s3 he3 f3 t3 => ⟨_, rfl, fun _ => KE e s3 ?_ (f12.tr f3) t3, fun h => absurd rfl h⟩) fun ff s3 he3 hff f3 t3 hS3 hR3 => ⟨_, rfl, fun h => absurd h (by decide), fun _ => ?_⟩
    · unfold rCase; rw [if_neg (by omega), andT_ok he, andT_er he3]
    have f7 : ∀ {s s' : Mem}, Fr [1, r + 7] s s' → Fr (lsB r) s s' := fun g => lsB_r g (by intro x hx; simp at hx; omega)
    refine c26 (d := d + 1) hn hb t3 hS3 hk hlt (fun e s4 he4 f4 t4 => ⟨_, rfl, fun h => absurd rfl h, fun _ => KE e s4 ?_ (f12.tr (f3.tr (f7 f4))) t4⟩) fun st' j' s4 he4 hj hst f4 t4 hS4 => ⟨_, rfl, fun _ => ?_, fun h => absurd h (by decide)⟩
    · unfold rCase; rw [if_neg (by omega), andT_ok he, andT_ok he3, andT_er he4]
    · have hR4 : RoC r S.c ff s4 := by
        unfold RoC
        rw [(f4 (r + 3) (by simp)).1, (f4 (r + 4) (by simp)).1, (f4 (r + 5) (by simp)).1, (f4 (r + 6) (by simp)).1]
        exact hR3
      have e2 : ∀ x, (sL s4 10 S.c x).2.2 9 2 = r := fun x => by rw [sL_R]; exact (RdS_ho hS4).2.2
      have e3 : ∀ x, (sL s4 10 S.c x).1 r 4 = nI S.c := fun x => by rw [sL_I]; exact hS4.2.2.1.1
      rw [(RdS_ho hS4).2.2, hS4.2.2.1.1, nI_clamp (by omega), e2, e3, nI_1]
      have hS5 := RdS_addC (w := v) hS4 hlt hR4
      have f5 : Fr [10, r] s4 (sI (sL s4 10 S.c (jJ ((v : Nat) : Int))) r 4 (nI (S.c + 1))) := (Fr.rfl.L (by simp)).I (by simp)
      refine ⟨hr0, ho, vp_in_nI hlt (by decide), hr0, ho, KO _ _ _ ?_ ?_ (ok_addC hk hlt hv' hff hst (ok_rNew he).2) ((f12.tr (f3.tr (f7 f4))).tr (lsB_r f5 ?_)) (TkC_fr t4 f5 ?_) hS5⟩
      · unfold rCase; rw [if_neg (by omega), andT_ok he, andT_ok he3, andT_ok he4]
      · omega
      · intro x hx; simp at hx; omega
      · intro x h1 h2; simp; omega
  · refine c109 (f := 2) hn h fun s f t => ⟨_, rfl, Or.inl rfl, KE _ s ?_ (lsB_1 f) t⟩
    unfold rCase; rw [if_pos (by omega)]
end cas
