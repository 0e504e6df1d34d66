/-! CONTRACTS: the class's reader: a line of a mark, of never, of what is told -/
theorem w_mark : (1835102827 : Int64) = jJ ((1835102827 : Nat) : Int) := by decide +kernel
theorem w_to : (29807 : Int64) = jJ ((29807 : Nat) : Int) := by decide +kernel
theorem w_never : (474148660594 : Int64) = jJ ((474148660594 : Nat) : Int) := by decide +kernel
theorem w_case : (1667330917 : Int64) = jJ ((1667330917 : Nat) : Int) := by decide +kernel
theorem w_judge : (457236047717 : Int64) = jJ ((457236047717 : Nat) : Int) := by decide +kernel
theorem w_in : (26990 : Int64) = jJ ((26990 : Nat) : Int) := by decide +kernel
theorem w_given : (444150998382 : Int64) = jJ ((444150998382 : Nat) : Int) := by decide +kernel
theorem w_weight : (131277443786868 : Int64) = jJ ((131277443786868 : Nat) : Int) := by decide +kernel
theorem w_told : (1953459300 : Int64) = jJ ((1953459300 : Nat) : Int) := by decide +kernel
theorem w_over : (1870030194 : Int64) = jJ ((1870030194 : Nat) : Int) := by decide +kernel
theorem jJ_ne0 {v : Nat} (h0 : 0 < v) (h : v < 2 ^ 64) : ¬ lg_cmp (jJ ((v : Nat) : Int)) 0 = 0 := by
  rw [lc_eq, show (0 : Int64) = jJ ((0 : Nat) : Int) from rfl, jJ_inj h (by decide)]; omega
theorem lsB_r {r : Nat} {σ σ' : Mem} {ls : List Nat} (h : Fr ls σ σ') (hl : ∀ x, x ∈ ls → x = 1 ∨ x = 11 ∨ x = 10 ∨ (r ≤ x ∧ x ≤ r + 9)) : Fr (lsB r) σ σ' := h.mono fun x hx => by
  rcases hl x hx with q | q | q | q
  · rw [q]; simp [lsB]
  · rw [q]; simp [lsB]
  · rw [q]; simp [lsB]
  · have : x = r ∨ x = r + 1 ∨ x = r + 2 ∨ x = r + 3 ∨ x = r + 4 ∨ x = r + 5 ∨ x = r + 6 ∨ x = r + 7 ∨ x = r + 8 ∨ x = r + 9 := by omega
    unfold lsB
    simp only [List.mem_cons]
    omega
section ln2
variable {Θ : Th} {d : Nat} {σ : Mem} {Q : Po} {b : Nat → Nat} {n : Nat} {law : Bool} {r : Nat} {S : Rds} {st : Nat → Nat}
theorem RdS_r (hS : RdS r S st σ) : r = 12 ∨ r = 22 := hS.1.1
theorem ok_rNew {tk : Nat → Tk} {j : Nat} {a : Nat × Nat} (h : rNew tk S j = .ok a) : fdN S.mn a.1 S.m = none ∧ fdN S.cn a.1 S.c = none := by
  unfold rNew at h
  split at h
  · split at h
    · cases h; assumption
    · cases h
  · cases h
theorem c22 {j : Nat} (hn : n ≤ 1300) (hb : ∀ i, b i < 256) (h : TkC b n law j σ) (hS : RdS r S st σ) (hk : RdsOk S)
    (KE : ∀ e σ', rMark (tok b n law) S j = .error e → Fr (lsB r) σ σ' → FaC e σ' → Q (some (.int 0)) σ')
    (KO : ∀ S' j' σ', rMark (tok b n law) S j = .ok (S', j') → j < j' → RdsOk S' → Fr (lsB r) σ σ' → TkC b n law j' σ' → RdS r S' st σ' → Q (some (.int 1)) σ') : Cm Θ (d + 3) 22 [.ref 9] σ Q := by
  obtain ⟨ho, hr0, hrr⟩ := RdS_ho hS
  have hr := RdS_r hS
  refine K22 (B22_0 ?_)
  have l6 : nI S.m < 6 ↔ S.m < 6 := nI_ltI (b := 6) (by have := hk.1.1; omega) (by omega)
  rw [hrr, hS.2.1.1, l6]
  refine ⟨hr0, ho, fun hlt => ?_, fun hge => ?_⟩
  · refine c102 hn h fun s1 f1 t1 => ⟨rfl, ?_⟩
    have hS1 := RdS_1 hS f1
    refine c28 (d := d + 1) hn hb t1 hS1 hk (fun e s2 he f2 t2 => ⟨_, rfl, fun h => absurd (by decide) h, fun _ => KE e s2 ?_ (lsB_1 (f1.tr f2)) t2⟩) fun s2 v he hv hv' f2 t2 => ⟨_, rfl, fun _ => ?_, fun h => absurd h (jJ_ne0 hv hv')⟩
    · unfold rMark; rw [if_neg (by omega), andT_er he]
    have hS2 := RdS_1 hS1 f2
    rw [w_to]
    refine c116 (d := d) (lo := 1) (hi := 11) hn hb t2 (by decide) (by decide) (by decide) (fun e s3 he3 f3 t3 => ⟨_, rfl, fun _ => KE e s3 ?_ (lsB_1 ((f1.tr f2).tr f3)) t3, fun h => absurd (by decide) h⟩) fun s3 t he3 l1 l2 f3 t3 => ⟨_, rfl, fun h => absurd h (nI_pos (by omega)), fun _ => ?_⟩
    · unfold rMark; rw [if_neg (by omega), andT_ok he, andT_er he3]
    have hS3 := RdS_1 hS2 f3
    refine c114 (d := d + 1) (w := 59) hn hb t3 (by decide) (fun e s4 he4 f4 t4 => ⟨_, rfl, fun h => absurd rfl h, fun _ => KE e s4 ?_ (lsB_1 (((f1.tr f2).tr f3).tr f4)) t4⟩) fun s4 he4 f4 t4 => ⟨_, rfl, fun _ => ?_, fun h => absurd h (by decide)⟩
    · unfold rMark; rw [if_neg (by omega), andT_ok he, andT_ok he3, andT_er he4]
    have hS4 := RdS_1 hS3 f4
    rw [(RdS_ho hS4).2.2]
    refine ⟨hr0, ho, c7 hS4 hlt fun s5 f5 hS5 => ⟨rfl, KO _ _ s5 ?_ ?_ (ok_addM hk hlt hv' ⟨l1, l2⟩ (ok_rNew he).1) ((lsB_1 (((f1.tr f2).tr f3).tr f4)).tr (lsB_r f5 ?_)) (TkC_fr t4 f5 ?_) hS5⟩⟩
    · unfold rMark; rw [if_neg (by omega), andT_ok he, andT_ok he3, andT_ok he4]
    · omega
    · intro x hx; simp at hx; omega
    · intro x h1 h2; simp; omega
  · refine c109 (f := 2) hn h fun s f t => ⟨_, rfl, Or.inl rfl, KE _ s ?_ (lsB_1 f) t⟩
    unfold rMark; rw [if_pos (by omega)]
theorem RdS_nev {m : Nat} (hS : RdS r S st σ) : RdS r (nevM S m) st (sI σ r 3 (sX (fun i => decide (i < S.m) && !(upN S.mv m true i)))) := by
  obtain ⟨⟨h1, h2⟩, ⟨a1, a2, a3, a4⟩, ⟨b1, b2, b3, b4, b5, b6⟩, c1, c2⟩ := hS
  obtain ⟨s, hs⟩ : ∃ s, s = sI σ r 3 (sX (fun i => decide (i < S.m) && !(upN S.mv m true i))) := ⟨_, rfl⟩
  rw [← hs]
  have ox : ∀ x, x ≠ r → s.1 x = σ.1 x := fun x hx => by rw [hs]; exact sI_ne hx
  have o0 : ∀ k, k ≠ 3 → s.1 r k = σ.1 r k := fun k hk => by rw [hs, sI_of _ _ (by omega)]
  have oL : s.2 = σ.2 := by rw [hs]; rfl
  refine ⟨⟨h1, by rw [oL]; exact h2⟩, ⟨by rw [o0 _ (by omega)]; exact a1, by rw [oL]; exact a2, by rw [ox _ (by omega)]; exact a3, by rw [hs, sI_at]; rfl⟩, ⟨by rw [o0 _ (by omega)]; exact b1, by rw [oL]; exact b2, ?_, by rw [ox _ (by omega)]; exact b4, by rw [ox _ (by omega)]; exact b5, by rw [ox _ (by omega)]; exact b6⟩, by rw [o0 _ (by omega)]; exact c1, ?_⟩
  · rw [ox _ (by omega), ox _ (by omega), ox _ (by omega), ox _ (by omega)]; exact b3
  · rw [ox _ (by omega), ox _ (by omega), ox 11 (by omega)]; exact c2
theorem RdS_11 {x : Int32} (hS : RdS r S st σ) : RdS r S st (sI σ 11 S.t x) := by
  have hr := RdS_r hS
  obtain ⟨⟨h1, h2⟩, ⟨a1, a2, a3, a4⟩, ⟨b1, b2, b3, b4, b5, b6⟩, c1, c2⟩ := hS
  have ox : ∀ y, y ≠ 11 → (sI σ 11 S.t x).1 y = σ.1 y := fun y hy => sI_ne hy
  unfold RdS
  rw [ox r (by omega), ox (r + 2) (by omega), ox (r + 3) (by omega), ox (r + 4) (by omega), ox (r + 5) (by omega), ox (r + 6) (by omega), ox (r + 7) (by omega), ox (r + 8) (by omega), ox (r + 9) (by omega)]
  refine ⟨⟨h1, h2⟩, ⟨a1, a2, a3, a4⟩, ⟨b1, b2, b3, b4, b5, b6⟩, c1, fun i hi => ?_⟩
  rw [sI_of _ _ (by omega)]
  exact c2 i hi
theorem c23 {j : Nat} (hn : n ≤ 1300) (hb : ∀ i, b i < 256) (h : TkC b n law j σ) (hS : RdS r S st σ) (hk : RdsOk S)
    (KE : ∀ e σ', rNev (tok b n law) S j = .error e → Fr (lsB r) σ σ' → FaC e σ' → Q (some (.int 0)) σ')
    (KO : ∀ S' j' σ', rNev (tok b n law) S j = .ok (S', j') → j < j' → RdsOk S' → Fr (lsB r) σ σ' → TkC b n law j' σ' → RdS r S' st σ' → Q (some (.int 1)) σ') : Cm Θ (d + 2) 23 [.ref 9] σ Q := by
  obtain ⟨ho, hr0, hrr⟩ := RdS_ho hS
  have hr := RdS_r hS
  refine K23 (B23_0 ?_)
  refine c102 hn h fun s1 f1 t1 => ⟨rfl, ?_⟩
  have hS1 := RdS_1 hS f1
  refine c29 (d := d) hn hb t1 hS1 hk (fun e s2 he f2 t2 => ⟨_, rfl, fun h => absurd h (by decide), fun _ => KE e s2 ?_ (lsB_1 (f1.tr f2)) t2⟩) fun m he hm => ⟨_, rfl, fun _ => ?_, fun h => absurd (nI_le (a := 0) (Nat.zero_le m) (by have := hk.1.1; omega)) h⟩
  · unfold rNev; rw [andT_er he]
  rw [(RdS_ho hS1).2.2]
  have hm16 : m < 16 := by have := hk.1.1; omega
  refine ⟨hr0, ho, ro (c14 ho (by omega)) ?_⟩
  rw [hS1.2.1.2.2.2, bt_sX _ (by omega)]
  rw [show (decide (m < 16) && (decide (m < S.m) && !S.mv m)) = !S.mv m by simp [hm16, hm]]
  refine ⟨fun hne => ?_, fun h0 => ?_⟩
  · have hmv : S.mv m = false := by have := b01_n.mp hne; simpa using this
    refine c102 hn t1 fun s2 f2 t2 => ⟨rfl, ?_⟩
    have hS2 := RdS_1 hS1 f2
    dsimp only
    rw [(RdS_ho hS2).2.2, hS2.2.1.2.2.2, sX_1 hm16, sX_dif]
    have eX : sX (fun k => (decide (k < S.m) && !S.mv k) && !decide (k = m)) = sX (fun i => decide (i < S.m) && !(upN S.mv m true i)) := sX_congr fun k hk => by
      by_cases z : k = m
      · rw [z, upN_at]; simp
      · rw [upN_ne z]; simp [z]
    rw [eX]
    have hS3 := RdS_nev (m := m) hS2
    have f3 : Fr [r] s2 (sI s2 r 3 (sX (fun i => decide (i < S.m) && !(upN S.mv m true i)))) := Fr.rfl.I (by simp)
    have t3 := TkC_fr t2 f3 (by intro x h1 h2; simp; omega)
    have f123 := (lsB_1 (f1.tr f2)).tr (lsB_r f3 (r := r) (by intro x hx; simp at hx; omega))
    refine ⟨hr0, ho, c114 (d := d) (w := 59) hn hb t3 (by decide) (fun e s4 he4 f4 t4 => ⟨_, rfl, Or.inl rfl, KE e s4 ?_ (f123.tr (lsB_1 f4)) t4⟩) fun s4 he4 f4 t4 => ⟨_, rfl, Or.inr rfl, KO _ _ s4 ?_ ?_ ?_ (f123.tr (lsB_1 f4)) t4 (RdS_1 hS3 f4)⟩⟩
    · unfold rNev; rw [andT_ok he, if_neg (by rw [hmv]; decide), andT_er he4]
    · unfold rNev; rw [andT_ok he, if_neg (by rw [hmv]; decide), andT_ok he4]
    · omega
    · exact hk
  · have hmv : S.mv m = true := by have := b01_0.mp h0; simpa using this
    refine c109 (f := 3) hn t1 fun s f t => ⟨_, rfl, Or.inl rfl, KE _ s ?_ (lsB_1 (f1.tr f)) t⟩
    unfold rNev; rw [andT_ok he, if_pos hmv]
theorem c27 {j : Nat} (hn : n ≤ 1300) (hb : ∀ i, b i < 256) (h : TkC b n law j σ) (hS : RdS r S st σ) (hk : RdsOk S)
    (KE : ∀ e σ', rTold (tok b n law) S j = .error e → Fr (lsB r) σ σ' → FaC e σ' → Q (some (.int 0)) σ')
    (KO : ∀ S' j' σ', rTold (tok b n law) S j = .ok (S', j') → j < j' → RdsOk S' → Fr (lsB r) σ σ' → TkC b n law j' σ' → RdS r S' st σ' → Q (some (.int 1)) σ') : Cm Θ (d + 2) 27 [.ref 9] σ Q := by
  obtain ⟨ho, hr0, hrr⟩ := RdS_ho hS
  have hr := RdS_r hS
  refine K27 (B27_0 ?_)
  have l20 : nI S.t < 20 ↔ S.t < 20 := nI_ltI (b := 20) (by have := hk.1.2.2; omega) (by omega)
  rw [hrr, hS.2.2.2.1, l20]
  refine ⟨hr0, ho, fun hlt => ?_, fun hge => ?_⟩
  · refine c102 hn h fun s1 f1 t1 => ⟨rfl, ?_⟩
    have hS1 := RdS_1 hS f1
    refine c30 (d := d) hn hb t1 hS1 hk (fun e s2 he f2 t2 => ⟨_, rfl, fun _ => KE e s2 ?_ (lsB_1 (f1.tr f2)) t2, fun h => absurd (by decide) h⟩) fun s2 a he ha f2 t2 => ⟨_, rfl, fun h => absurd h (nI_pos (by have := hk.1.2.1; omega)), fun _ => ?_⟩
    · unfold rTold; rw [if_neg (by omega), andT_er he]
    have hS2 := RdS_1 hS1 f2
    rw [w_over]
    refine c113 (d := d) hn hb t2 (by decide) (fun e s3 he3 f3 t3 => ⟨_, rfl, fun h => absurd rfl h, fun _ => KE e s3 ?_ (lsB_1 ((f1.tr f2).tr f3)) t3⟩) fun s3 he3 f3 t3 => ⟨_, rfl, fun _ => ?_, fun h => absurd h (by decide)⟩
    · unfold rTold; rw [if_neg (by omega), andT_ok he, andT_er he3]
    have hS3 := RdS_1 hS2 f3
    rw [(RdS_ho hS3).2.2, hS3.2.2.2.1, t3.2.2.2.2.1, nI_clamp (by omega)]
    refine ⟨hr0, ho, vp_in_nI hlt (by decide), ?_⟩
    obtain ⟨p, hp⟩ : ∃ p, p = (tok b n law (j + 1 + 1 + 1)).2.1 := ⟨_, rfl⟩
    rw [← hp]
    have hS4 := RdS_11 (x := nI p) hS3
    have f4 : Fr [11] s3 (sI s3 11 S.t (nI p)) := Fr.rfl.I (by simp)
    have t4 := TkC_fr t3 f4 (by intro x h1 h2; simp; omega)
    have f1234 := (lsB_1 ((f1.tr f2).tr f3)).tr (lsB_r f4 (r := r) (by intro x hx; simp at hx; omega))
    refine c30 (d := d) hn hb t4 hS4 hk (fun e s5 he5 f5 t5 => ⟨_, rfl, fun _ => KE e s5 ?_ (f1234.tr (lsB_1 f5)) t5, fun h => absurd (by decide) h⟩) fun s5 u he5 hu f5 t5 => ⟨_, rfl, fun h => absurd h (nI_pos (by have := hk.1.2.1; omega)), fun _ => ?_⟩
    · unfold rTold; rw [if_neg (by omega), andT_ok he, andT_ok he3, andT_er he5]
    have hS5 := RdS_1 hS4 f5
    refine c114 (d := d) (w := 59) hn hb t5 (by decide) (fun e s6 he6 f6 t6 => ⟨_, rfl, fun h => absurd rfl h, fun _ => KE e s6 ?_ (f1234.tr (lsB_1 (f5.tr f6))) t6⟩) fun s6 he6 f6 t6 => ⟨_, rfl, fun _ => ?_, fun h => absurd h (by decide)⟩
    · unfold rTold; rw [if_neg (by omega), andT_ok he, andT_ok he3, andT_ok he5, andT_er he6]
    have hS6 := RdS_1 hS5 f6
    have p6 : s6.1 11 S.t = nI p := by rw [((f5.tr f6) 11 (by decide)).1, sI_at]
    rw [(RdS_ho hS6).2.2]
    refine ⟨hr0, ho, c8 hS6 hlt p6 fun s7 f7 hS7 => ⟨rfl, KO _ _ s7 ?_ ?_ (ok_addT hk hlt ha hu) ((f1234.tr (lsB_1 (f5.tr f6))).tr (lsB_r f7 ?_)) (TkC_fr t6 f7 ?_) hS7⟩⟩
    · unfold rTold; rw [if_neg (by omega), andT_ok he, andT_ok he3, andT_ok he5, andT_ok he6, hp]
    · omega
    · intro x hx; simp at hx; omega
    · intro x h1 h2; simp; omega
  · refine c109 (f := 2) hn h fun s f t => ⟨_, rfl, Or.inl rfl, KE _ s ?_ (lsB_1 f) t⟩
    unfold rTold; rw [if_pos (by omega)]
end ln2
