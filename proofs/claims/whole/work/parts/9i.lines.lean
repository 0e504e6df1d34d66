/-! CONTRACTS: the class's reader: lines of marks, of never, of what is told -/
def addM (S : Rds) (w t : Nat) : Rds := ((S.m + 1, upN S.mn S.m w, upN S.mt S.m t, upN S.mv S.m false), S.2)
def nevM (S : Rds) (m : Nat) : Rds := ((S.m, S.mn, S.mt, upN S.mv m true), S.2)
def addC (S : Rds) (w : Nat) (f : Nat × Nat × Nat × Nat) (st : Nat → Nat) : Rds := (S.1, (S.c + 1, upN S.cn S.c w, (upN S.cj S.c f.1, upN S.cy S.c f.2.1, upN S.cg S.c f.2.2.1, upN S.cw S.c f.2.2.2), upN S.cs S.c st), S.2.2)
def addT (S : Rds) (a u p : Nat) : Rds := (S.1, S.2.1, (S.t + 1, upN S.ov S.t a, upN S.un S.t u, upN S.tp S.t p))
def rMark (tk : Nat → Tk) (S : Rds) (j : Nat) : Except Fa (Rds × Nat) :=
  if 6 ≤ S.m then .error (flt 2 (tk j)) else andT (rNew tk S (j + 1)) fun a => andT (rWN tk 0x746F 1 11 a.2) fun c => andT (rG tk 59 c.2) fun j' => .ok (addM S a.1 c.1, j')
def rNev (tk : Nat → Tk) (S : Rds) (j : Nat) : Except Fa (Rds × Nat) :=
  andT (rMk tk S (j + 1)) fun m => if S.mv m = true then .error (flt 3 (tk (j + 1))) else andT (rG tk 59 (j + 2)) fun j' => .ok (nevM S m, j')
def rTold (tk : Nat → Tk) (S : Rds) (j : Nat) : Except Fa (Rds × Nat) :=
  if 20 ≤ S.t then .error (flt 2 (tk j)) else andT (rCs tk S (j + 1)) fun a => andT (rW tk 0x6F766572 a.2) fun j1 => andT (rCs tk S j1) fun c => andT (rG tk 59 c.2) fun j2 => .ok (addT S a.1 c.1 (tk j1).2.1, j2)
theorem fdN_no {nm : Nat → Nat} {w : Nat} : ∀ {k : Nat}, fdN nm w k = none → ∀ i, i < k → nm i ≠ w
  | 0, _, i, h => by omega
  | k + 1, h, i, hi => by
    have h : (match fdN nm w k with | some x => some x | none => if nm k = w then some k else none) = none := h
    cases q : fdN nm w k with
    | some y => rw [q] at h; cases h
    | none =>
      rw [q] at h
      have h : (if nm k = w then some k else none) = none := h
      split at h
      · cases h
      · by_cases z : i = k
        · rw [z]; assumption
        · exact fdN_no q i (by omega)
theorem ok_addM {S : Rds} {w t : Nat} (h : RdsOk S) (hm : S.m < 6) (hw : w < 2 ^ 64) (ht : 1 ≤ t ∧ t ≤ 11) (hf : fdN S.mn w S.m = none) : RdsOk (addM S w t) := by
  obtain ⟨⟨a1, a2, a3⟩, b, c, e, f, g⟩ := h
  have no := fdN_no hf
  have um : ∀ i, i < S.m → upN S.mn S.m w i = S.mn i := fun i hi => upN_ne (by omega)
  have ut : ∀ i, i < S.m → upN S.mt S.m t i = S.mt i := fun i hi => upN_ne (by omega)
  refine ⟨⟨hm, a2, a3⟩, fun i hi => ?_, fun i hi => ?_, e, fun i k hi hk => ?_, g⟩
  · have hi : i < S.m + 1 := hi
    show upN S.mn S.m w i < 2 ^ 64 ∧ 1 ≤ upN S.mt S.m t i ∧ upN S.mt S.m t i ≤ 11
    by_cases z : i = S.m
    · rw [z, upN_at, upN_at]; exact ⟨hw, ht⟩
    · rw [upN_ne z, upN_ne z]; exact b i (by omega)
  · obtain ⟨c1, c2, c3⟩ := c i hi
    refine ⟨c1, c2, fun m hm6 => ⟨fun hlt => ?_, fun hge => (c3 m hm6).2 (by have : S.m + 1 ≤ m := hge; omega)⟩⟩
    have hlt : m < S.m + 1 := hlt
    show S.cs i m ≤ upN S.mt S.m t m
    by_cases z : m = S.m
    · rw [(c3 m hm6).2 (by omega)]; exact Nat.zero_le _
    · rw [upN_ne z]; exact (c3 m hm6).1 (by omega)
  · have hi : i < S.m + 1 := hi
    have hk : k < S.m + 1 := hk
    show upN S.mn S.m w i = upN S.mn S.m w k → i = k
    intro q
    by_cases z : i = S.m
    · by_cases z' : k = S.m
      · omega
      · rw [z, upN_at, upN_ne z'] at q; exact absurd q.symm (no k (by omega))
    · by_cases z' : k = S.m
      · rw [z', upN_at, upN_ne z] at q; exact absurd q (no i (by omega))
      · rw [upN_ne z, upN_ne z'] at q; exact f i k (by omega) (by omega) q
theorem ok_addC {S : Rds} {w : Nat} {v : Nat × Nat × Nat × Nat} {st : Nat → Nat} (h : RdsOk S) (hm : S.c < 16) (hw : w < 2 ^ 64) (hv : v.1 ≤ 9 ∧ v.2.1 ≤ 99 ∧ v.2.2.1 ≤ 240 ∧ 1 ≤ v.2.2.2 ∧ v.2.2.2 ≤ 4) (hst : ∀ m, m < 6 → (m < S.m → st m ≤ S.mt m) ∧ (S.m ≤ m → st m = 0)) (hf : fdN S.cn w S.c = none) : RdsOk (addC S w v st) := by
  obtain ⟨⟨a1, a2, a3⟩, b, c, e, f, g⟩ := h
  have no := fdN_no hf
  refine ⟨⟨a1, hm, a3⟩, b, fun i hi => ?_, fun i hi => ?_, f, fun i k hi hk => ?_⟩
  · have hi : i < S.c + 1 := hi
    show upN S.cn S.c w i < 2 ^ 64 ∧ (upN S.cj S.c v.1 i ≤ 9 ∧ upN S.cy S.c v.2.1 i ≤ 99 ∧ upN S.cg S.c v.2.2.1 i ≤ 240 ∧ 1 ≤ upN S.cw S.c v.2.2.2 i ∧ upN S.cw S.c v.2.2.2 i ≤ 4) ∧ ∀ m, m < 6 → (m < S.m → upN S.cs S.c st i m ≤ S.mt m) ∧ (S.m ≤ m → upN S.cs S.c st i m = 0)
    by_cases z : i = S.c
    · rw [z, upN_at, upN_at, upN_at, upN_at, upN_at, upN_at]; exact ⟨hw, hv, hst⟩
    · rw [upN_ne z, upN_ne z, upN_ne z, upN_ne z, upN_ne z, upN_ne z]; exact c i (by omega)
  · have := e i hi
    show S.ov i < S.c + 1 ∧ S.un i < S.c + 1
    omega
  · have hi : i < S.c + 1 := hi
    have hk : k < S.c + 1 := hk
    show upN S.cn S.c w i = upN S.cn S.c w k → i = k
    intro q
    by_cases z : i = S.c
    · by_cases z' : k = S.c
      · omega
      · rw [z, upN_at, upN_ne z'] at q; exact absurd q.symm (no k (by omega))
    · by_cases z' : k = S.c
      · rw [z', upN_at, upN_ne z] at q; exact absurd q (no i (by omega))
      · rw [upN_ne z, upN_ne z'] at q; exact g i k (by omega) (by omega) q
theorem ok_addT {S : Rds} {a u p : Nat} (h : RdsOk S) (hm : S.t < 20) (ha : a < S.c) (hu : u < S.c) : RdsOk (addT S a u p) := by
  obtain ⟨⟨a1, a2, a3⟩, b, c, e, f, g⟩ := h
  refine ⟨⟨a1, a2, hm⟩, b, c, fun i hi => ?_, f, g⟩
  have hi : i < S.t + 1 := hi
  show upN S.ov S.t a i < S.c ∧ upN S.un S.t u i < S.c
  by_cases z : i = S.t
  · rw [z, upN_at, upN_at]; exact ⟨ha, hu⟩
  · rw [upN_ne z, upN_ne z]; exact e i (by omega)
def lsB (r : Nat) : List Nat := [1, 10, 11, r, r + 1, r + 2, r + 3, r + 4, r + 5, r + 6, r + 7, r + 8, r + 9]
theorem lsB_1 {r : Nat} {σ σ' : Mem} (h : Fr [1] σ σ') : Fr (lsB r) σ σ' := h.mono (by intro x hx; simp at hx; subst hx; simp [lsB])
theorem TkC_fr {b : Nat → Nat} {n j : Nat} {law : Bool} {σ σ' : Mem} {ls : List Nat} (h : TkC b n law j σ) (hf : Fr ls σ σ') (hl : ∀ x, 1 ≤ x → x ≤ 5 → x ∉ ls) : TkC b n law j σ' := by
  obtain ⟨h0, h1, ⟨T, ⟨a1, a2, a3, a4⟩, hs, w, hw, hj, h11⟩, k⟩ := h
  have e1 := hf 1 (hl 1 (by omega) (by omega))
  have e3 := (hf 3 (hl 3 (by omega) (by omega))).1
  have e4 := (hf 4 (hl 4 (by omega) (by omega))).1
  have e5 := (hf 5 (hl 5 (by omega) (by omega))).2.1
  unfold TkC TbC
  rw [e1.1, e1.2.1, e3, e4, e5]
  exact ⟨h0, h1, ⟨T, ⟨a1, a2, a3, a4⟩, hs, w, hw, hj, h11⟩, k⟩
section lns
variable {Θ : Th} {d : Nat} {σ : Mem} {Q : Po} {b : Nat → Nat} {n : Nat} {law : Bool} {r : Nat} {S : Rds} {st : Nat → Nat}
theorem c7 {w t : Nat} (hS : RdS r S st σ) (hm : S.m < 6) (K : ∀ σ', Fr [r, r + 1, r + 2] σ σ' → RdS r (addM S w t) st σ' → Q none σ') : Cm Θ d 7 [.ref r, .long (jJ ((w : Nat) : Int)), .int (nI t)] σ Q := by
  obtain ⟨ho, hr0, hrr⟩ := RdS_ho hS
  obtain ⟨⟨h1, h2⟩, ⟨a1, a2, a3, a4⟩, ⟨b1, b2, b3, b4, b5, b6⟩, c1, c2⟩ := hS
  have vm : vp_in (nI S.m) 6 := vp_in_nI (by omega) (by decide)
  obtain ⟨s1, hs1⟩ : ∃ s1, s1 = sL σ (r + 1) S.m (jJ ((w : Nat) : Int)) := ⟨_, rfl⟩
  obtain ⟨s2, hs2⟩ : ∃ s2, s2 = sI s1 (r + 2) S.m (nI t) := ⟨_, rfl⟩
  obtain ⟨s3, hs3⟩ : ∃ s3, s3 = sI s2 r 3 (sX (fun i => decide (i < S.m + 1) && !(upN S.mv S.m false i))) := ⟨_, rfl⟩
  obtain ⟨s4, hs4⟩ : ∃ s4, s4 = sI s3 r 0 (nI (S.m + 1)) := ⟨_, rfl⟩
  have e1 : s1.1 r 0 = nI S.m := by rw [hs1, sL_I]; exact a1
  have e2 : s2.1 r 0 = nI S.m := by rw [hs2, sI_of _ _ (by omega)]; exact e1
  have e3 : s2.1 r 3 = sX (fun i => decide (i < S.m) && !S.mv i) := by rw [hs2, sI_of _ _ (by omega), hs1, sL_I]; exact a4
  have e4 : s3.1 r 0 = nI S.m := by rw [hs3, sI_of _ _ (by omega)]; exact e2
  have eX : sX (fun i => decide (i < S.m) && !S.mv i) ||| ((1 : Int32) <<< (nI S.m &&& 31)) = sX (fun i => decide (i < S.m + 1) && !(upN S.mv S.m false i)) := by
    rw [sX_add1 _ (by omega)]
    refine sX_congr fun k hk => ?_
    by_cases z : k = S.m
    · subst z; rw [upN_at]; simp
    · rw [upN_ne z]
      have : decide (k < S.m + 1) = decide (k < S.m) := by apply decide_eq_decide.mpr; omega
      rw [this]; simp [z]
  refine K7 (B7_0 ho ?_)
  rw [a1, nI_clamp (by omega), ← hs1, e1, nI_clamp (by omega), ← hs2, e3, e2, eX, ← hs3, e4, nI_1, ← hs4]
  refine ⟨vm, vm, K s4 ?_ ?_⟩
  · rw [hs4, hs3, hs2, hs1]
    exact (((Fr.rfl.L (by simp)).I (by simp)).I (by simp)).I (by simp)
  · have oI : ∀ x k, x ≠ r + 2 → ¬ (x = r ∧ (k = 3 ∨ k = 0)) → s4.1 x k = σ.1 x k := fun x k q1 q2 => by
      rw [hs4, sI_of _ _ (by omega), hs3, sI_of _ _ (by omega), hs2, sI_of _ _ (by omega), hs1]; rfl
    have oL : s4.2.1 = s1.2.1 := by rw [hs4, hs3, hs2]; rfl
    have oR : s4.2.2 = σ.2.2 := by rw [hs4, hs3, hs2, hs1]; rfl
    refine ⟨⟨h1, by rw [oR]; exact h2⟩, ⟨?_, fun i hi => ?_, fun i hi => ?_, ?_⟩, ⟨?_, fun i hi => ?_, fun i hi => ?_, fun i m hi hm' => ?_, fun m hm' => ?_, fun k hk hk' => ?_⟩, ?_, fun i hi => ?_⟩
    · rw [hs4, sI_at]; rfl
    · have hi : i < S.m + 1 := hi
      show s4.2.1 (r + 1) i = jJ ((upN S.mn S.m w i : Nat) : Int)
      rw [oL, hs1]
      by_cases z : i = S.m
      · rw [z, sL_at, upN_at]
      · rw [sL_of _ _ (by omega), upN_ne z]; exact a2 i (by omega)
    · have hi : i < S.m + 1 := hi
      show s4.1 (r + 2) i = nI (upN S.mt S.m t i)
      rw [hs4, sI_of _ _ (by omega), hs3, sI_of _ _ (by omega), hs2]
      by_cases z : i = S.m
      · rw [z, sI_at, upN_at]
      · rw [sI_of _ _ (by omega), upN_ne z, hs1, sL_I]; exact a3 i (by omega)
    · rw [hs4, sI_of _ _ (by omega), hs3, sI_at]; rfl
    · rw [oI _ _ (by omega) (by omega)]; exact b1
    · rw [oL, hs1, sL_of _ _ (by omega)]; exact b2 i hi
    · rw [oI _ _ (by omega) (by omega), oI _ _ (by omega) (by omega), oI _ _ (by omega) (by omega), oI _ _ (by omega) (by omega)]; exact b3 i hi
    · rw [oI _ _ (by omega) (by omega)]; exact b4 i m hi hm'
    · show s4.1 (r + 7) (6 * S.c + m) = nI (st m)
      rw [oI _ _ (by omega) (by omega)]; exact b5 m hm'
    · rw [oI _ _ (by omega) (by omega)]; exact b6 k hk hk'
    · rw [oI _ _ (by omega) (by omega)]; exact c1
    · rw [oI _ _ (by omega) (by omega), oI _ _ (by omega) (by omega), oI _ _ (by omega) (by omega)]; exact c2 i hi
theorem c8 {a u p : Nat} (hS : RdS r S st σ) (hm : S.t < 20) (hp : σ.1 11 S.t = nI p) (K : ∀ σ', Fr [r, r + 8, r + 9] σ σ' → RdS r (addT S a u p) st σ' → Q none σ') : Cm Θ d 8 [.ref r, .int (nI a), .int (nI u)] σ Q := by
  obtain ⟨ho, hr0, hrr⟩ := RdS_ho hS
  obtain ⟨⟨h1, h2⟩, ⟨a1, a2, a3, a4⟩, ⟨b1, b2, b3, b4, b5, b6⟩, c1, c2⟩ := hS
  have vm : vp_in (nI S.t) 20 := vp_in_nI (by omega) (by decide)
  obtain ⟨s1, hs1⟩ : ∃ s1, s1 = sI σ (r + 8) S.t (nI a) := ⟨_, rfl⟩
  obtain ⟨s2, hs2⟩ : ∃ s2, s2 = sI s1 (r + 9) S.t (nI u) := ⟨_, rfl⟩
  obtain ⟨s4, hs4⟩ : ∃ s4, s4 = sI s2 r 10 (nI (S.t + 1)) := ⟨_, rfl⟩
  have e1 : s1.1 r 10 = nI S.t := by rw [hs1, sI_of _ _ (by omega)]; exact c1
  have e2 : s2.1 r 10 = nI S.t := by rw [hs2, sI_of _ _ (by omega)]; exact e1
  refine K8 (B8_0 ho ?_)
  rw [c1, nI_clamp (by omega), ← hs1, e1, nI_clamp (by omega), ← hs2, e2, nI_1, ← hs4]
  refine ⟨vm, vm, K s4 ?_ ?_⟩
  · rw [hs4, hs2, hs1]
    exact ((Fr.rfl.I (by simp)).I (by simp)).I (by simp)
  · have oI : ∀ x k, x ≠ r + 8 → x ≠ r + 9 → ¬ (x = r ∧ k = 10) → s4.1 x k = σ.1 x k := fun x k q1 q2 q3 => by
      rw [hs4, sI_of _ _ (by omega), hs2, sI_of _ _ (by omega), hs1, sI_of _ _ (by omega)]
    have oL : s4.2 = σ.2 := by rw [hs4, hs2, hs1]; rfl
    have e3 : s4.1 r 3 = σ.1 r 3 := oI _ _ (by omega) (by omega) (by omega)
    have e0 : s4.1 r 0 = σ.1 r 0 := oI _ _ (by omega) (by omega) (by omega)
    have e4 : s4.1 r 4 = σ.1 r 4 := oI _ _ (by omega) (by omega) (by omega)
    have ox : ∀ x, x ≠ r → x ≠ r + 8 → x ≠ r + 9 → s4.1 x = σ.1 x := fun x q1 q2 q3 => by funext k; exact oI x k q2 q3 (by omega)
    refine ⟨⟨h1, by rw [oL]; exact h2⟩, ⟨by rw [e0]; exact a1, by rw [oL]; exact a2, by rw [ox _ (by omega) (by omega) (by omega)]; exact a3, by rw [e3]; exact a4⟩, ⟨by rw [e4]; exact b1, by rw [oL]; exact b2, ?_, ?_, ?_, ?_⟩, ?_, fun i hi => ?_⟩
    · rw [ox _ (by omega) (by omega) (by omega), ox _ (by omega) (by omega) (by omega), ox _ (by omega) (by omega) (by omega), ox _ (by omega) (by omega) (by omega)]; exact b3
    · rw [ox _ (by omega) (by omega) (by omega)]; exact b4
    · rw [ox _ (by omega) (by omega) (by omega)]; exact b5
    · rw [ox _ (by omega) (by omega) (by omega)]; exact b6
    · rw [hs4, sI_at]; rfl
    · have hi : i < S.t + 1 := hi
      show s4.1 (r + 8) i = nI (upN S.ov S.t a i) ∧ s4.1 (r + 9) i = nI (upN S.un S.t u i) ∧ s4.1 11 i = nI (upN S.tp S.t p i)
      rw [ox 11 (by omega) (by omega) (by omega), hs4, sI_of _ _ (by omega), sI_of _ _ (by omega), hs2, sI_of _ _ (by omega), hs1]
      by_cases z : i = S.t
      · rw [z, sI_at, sI_at, upN_at, upN_at, upN_at]; exact ⟨rfl, rfl, hp⟩
      · rw [sI_of _ _ (by omega), sI_of _ _ (by omega), sI_of _ _ (by omega), upN_ne z, upN_ne z, upN_ne z]; exact c2 i (by omega)
end lns
