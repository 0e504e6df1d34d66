/-! CONTRACTS: the class reads a laws' text: lines, all of it -/
def LwC (o : Nat) (S : Lw) (σ : Mem) : Prop := LpC o S.P S.u σ ∧ σ.1 o 2 = nI S.k ∧ ∀ i, i < S.k → σ.1 (o + 1) i = nI (S.lo i) ∧ σ.1 (o + 2) i = nI (S.hi i) ∧ σ.1 (o + 3) i = nI (S.st i)
def lsO (o : Nat) : List Nat := [1, 3, 4, 5, o, o + 1, o + 2, o + 3, o + 4, o + 5]
theorem lsO_O {o : Nat} {σ s : Mem} (f : FrO o σ s) : Fr (lsO o) σ s := f.1.mono (by intro x hx; simp at hx; simp [lsO]; omega)
theorem lsO_1 {o : Nat} {σ s : Mem} (f : Fr [1] σ s) : Fr (lsO o) σ s := f.mono (by intro x hx; simp at hx; simp [lsO]; omega)
theorem MkC_f {r mk o : Nat} {nm : Nat → Nat} {σ s : Mem} (h : MkC r mk nm σ) (ho : o = 32 ∨ o = 39) (f : Fr (lsO o) σ s) : MkC r mk nm s := by
  obtain ⟨h1, h2, h3, h4⟩ := h
  have e := (f r (by simp [lsO]; omega)).1
  have e' := (f (r + 1) (by simp [lsO]; omega)).2.1
  exact ⟨h1, by rw [e]; exact h2, h3, by rw [e']; exact h4⟩
theorem LwC_1 {o : Nat} {S : Lw} {σ s : Mem} (h : LwC o S σ) (f : Fr [1] σ s) : LwC o S s := by
  obtain ⟨h1, h2, h3⟩ := h
  have ho := h1.1
  refine ⟨LpC_1 h1 f, by rw [(f o (by simp; omega)).1]; exact h2, fun i hi => ?_⟩
  rw [(f (o + 1) (by simp; omega)).1, (f (o + 2) (by simp)).1, (f (o + 3) (by simp)).1]; exact h3 i hi
section cl2
variable {Θ : Th} {σ : Mem} {Q : Po} {b : Nat → Nat} {n : Nat} {law : Bool} {o r mk : Nat} {nm : Nat → Nat}
theorem c53 {e j : Nat} {S : Lw} (hn : n ≤ 500) (hb : ∀ i, b i < 256) (hm : mk ≤ 6) (h : TkC b n law j σ) (hS : LwC o S σ) (hk : LwOk mk S) (hl : S.P.length ≤ j) (hM : MkC r mk nm σ) (hr : σ.2.2 o 1 = r)
    (KE : ∀ x s, rLl (tok b n law) mk nm S j = .error x → Fr (lsO o) σ s → FaC x s → Q (some (.int 0)) s)
    (KO : ∀ S' j' s, rLl (tok b n law) mk nm S j = .ok (S', j') → j < j' → S'.P.length ≤ j' → LwOk mk S' → Fr (lsO o) σ s → s.2.2 o = σ.2.2 o → TkC b n law j' s → LwC o S' s → Q (some (.int 1)) s) : Cm Θ (e + 101) 53 [.ref o] σ Q := by
  have hn13 : n ≤ 1300 := by omega
  have ho := hS.1.1
  obtain ⟨⟨k1, k2, k3, k4⟩, -, -⟩ := id hk
  have l8 : nI S.k < 8 ↔ S.k < 8 := nI_ltI (b := 8) (by omega) (by omega)
  have ge : ∀ v : Nat, v < 1000 → (0 : Int32) ≤ nI v := fun v hv => nI_le (a := 0) (Nat.zero_le v) (by omega)
  refine K53 (B53_0 (o_s ho) ?_)
  rw [hS.2.1, l8]
  refine ⟨fun q8 => ?_, fun q8 => c109 (f := 2) hn13 h fun s f t => ⟨_, rfl, Or.inl rfl, KE _ s (by unfold rLl; rw [if_pos (by omega)]) (lsO_1 f) t⟩⟩
  have eL : rLl (tok b n law) mk nm S j = andT (rW (tok b n law) 2003330414 j) fun j1 => andT (rLv (tok b n law) mk nm 48 0 0 (S.P, S.u, j1)) fun a => andT (rWN (tok b n law) 465557353332 0 240 a.2.2) fun c => andT (rWN (tok b n law) 1836020596 c.1 240 c.2) fun e => andT (rG (tok b n law) 59 e.2) fun j' => .ok (adL S a c.1 e.1, j') := by unfold rLl; rw [if_neg (by omega)]
  rw [w_when]
  refine c113 (d := e + 99) hn13 hb h (by decide) (fun x s he f t => ⟨_, rfl, fun _ => KE x s (by rw [eL, andT_er he]) (lsO_1 f) t, fun z => absurd rfl z⟩) fun s1 he1 f1 t1 => ⟨_, rfl, fun z => absurd z (by decide), fun _ => ?_⟩
  have hS1 := LwC_1 hS f1
  have F1 := lsO_1 (o := o) f1
  refine c54 (r := r) hn hb hm ho 48 e 0 0 S.P S.u (j + 1) s1 _ (by omega) (by omega) (by omega) t1 hS1.1 (by omega) k2 (MkC_f hM ho F1) (by rw [(f1 o (by simp; omega)).2.2]; exact hr) (fun x s he f t => ⟨_, rfl, fun z => absurd rfl z, fun _ => KE x s (by rw [eL, andT_ok he1, andT_er he]) (F1.tr (lsO_O f)) t⟩) fun a s2 he2 f2 t2 hP2 => ⟨_, rfl, fun _ => ?_, fun z => absurd z (by decide)⟩
  have F2 := F1.tr (lsO_O f2)
  obtain ⟨r1, r2, r3, r4, q, eq, l, x, dq⟩ := id (rLv_ok (law := law) hn13 hb hm 48 0 0 _ a he2)
  have r3 : j + 1 < a.2.2 := r3
  have eq : a.1 = q ++ S.P := eq
  have l : q.length + (j + 1) ≤ a.2.2 := l
  have la : a.1.length ≤ a.2.2 := by rw [eq, List.length_append]; omega
  have hS2 : LwC o (a.1, a.2.1, S.k, S.lo, S.hi, S.st) s2 := by
    refine ⟨hP2, ?_, fun i hi => ?_⟩
    · rw [f2.2.1 2 (by decide) (by decide)]; exact hS1.2.1
    · rw [(f2.1 (o + 1) (by intro y; simp at y; omega)).1, (f2.1 (o + 2) (by intro y; simp at y)).1, (f2.1 (o + 3) (by intro y; simp at y)).1]; exact hS1.2.2 i hi
  rw [w_least]
  refine c116 (d := e + 98) (lo := 0) (hi := 240) hn13 hb t2 (by decide) (by decide) (by decide) (fun x s he f t => ⟨_, rfl, fun z => absurd z (by decide), fun _ => KE x s (by rw [eL, andT_ok he1, andT_ok he2, andT_er he]) (F2.tr (lsO_1 f)) t⟩) fun s3 v3 he3 l3 l3' f3 t3 => ⟨_, rfl, fun _ => ?_, fun z => absurd (ge v3 (by omega)) z⟩
  have F3 := F2.tr (lsO_1 (o := o) f3)
  rw [w_most]
  refine c116 (d := e + 98) (lo := v3) (hi := 240) hn13 hb t3 (by decide) (by omega) (by decide) (fun x s he f t => ⟨_, rfl, fun _ => KE x s (by rw [eL, andT_ok he1, andT_ok he2, andT_ok he3, andT_er he]) (F3.tr (lsO_1 f)) t, fun z => absurd (by decide) z⟩) fun s4 v4 he4 l4 l4' f4 t4 => ⟨_, rfl, fun z => absurd z (nI_pos (by omega)), fun _ => ?_⟩
  have F4 := F3.tr (lsO_1 (o := o) f4)
  refine c114 (d := e + 99) (w := 59) hn13 hb t4 (by decide) (fun x s he f t => ⟨_, rfl, fun z => absurd rfl z, fun _ => KE x s (by rw [eL, andT_ok he1, andT_ok he2, andT_ok he3, andT_ok he4, andT_er he]) (F4.tr (lsO_1 f)) t⟩) fun s5 he5 f5 t5 => ⟨_, rfl, fun _ => ?_, fun z => absurd z (by decide)⟩
  have F5 := F4.tr (lsO_1 (o := o) f5)
  have hS5 := LwC_1 (LwC_1 (LwC_1 hS2 f3) f4) f5
  have vm := vp_in_nI q8 (by decide)
  obtain ⟨⟨h51, ⟨h8, h9⟩, h53⟩, h54, h55⟩ := hS5
  have h54 : s5.1 o 2 = nI S.k := h54
  have h8 : s5.1 o 8 = nI a.1.length := h8
  have e1 : ∀ v, (sI s5 (o + 1) S.k v).1 o 2 = nI S.k := fun v => by rw [sI_of _ _ (by omega)]; exact h54
  have e2 : ∀ v w, (sI (sI s5 (o + 1) S.k v) (o + 2) S.k w).1 o 2 = nI S.k := fun v w => by rw [sI_of _ _ (by omega)]; exact e1 v
  have e3 : ∀ v w, (sI (sI s5 (o + 1) S.k v) (o + 2) S.k w).1 o 8 = nI a.1.length := fun v w => by rw [sI_of _ _ (by omega), sI_of _ _ (by omega)]; exact h8
  have e4 : ∀ v w x, (sI (sI (sI s5 (o + 1) S.k v) (o + 2) S.k w) (o + 3) S.k x).1 o 2 = nI S.k := fun v w x => by rw [sI_of _ _ (by omega)]; exact e2 v w
  rw [h54, nI_clamp (by omega), e1, nI_clamp (by omega), e2, nI_clamp (by omega), e3, e4, nI_1]
  refine ⟨vm, vm, vm, ?_⟩
  obtain ⟨u, hu⟩ : ∃ u, u = sI (sI (sI (sI s5 (o + 1) S.k (nI v3)) (o + 2) S.k (nI v4)) (o + 3) S.k (nI a.1.length)) o 2 (nI (S.k + 1)) := ⟨_, rfl⟩
  rw [← hu]
  have fu : Fr [o, o + 1, o + 2, o + 3] s5 u := by rw [hu]; exact (((Fr.rfl.I (by simp)).I (by simp)).I (by simp)).I (by simp)
  have oI : ∀ y k, ¬ (y = o + 1 ∧ k = S.k) → ¬ (y = o + 2 ∧ k = S.k) → ¬ (y = o + 3 ∧ k = S.k) → ¬ (y = o ∧ k = 2) → u.1 y k = s5.1 y k := fun y k q1 q2 q3 q4 => by rw [hu, sI_of _ _ q4, sI_of _ _ q3, sI_of _ _ q2, sI_of _ _ q1]
  have hok := ok_adL (a := a) (n := n) (j1 := j + 1) (lo := v3) (hh := v4) hk q8 ⟨r1, r2, r3, r4, q, eq, l, x, dq⟩ ⟨l4, l4'⟩ (by omega)
  have rr : u.2.2 o = σ.2.2 o := by
    have : u.2.2 o = s5.2.2 o := by rw [hu]; rfl
    rw [this, (f5 o (by simp; omega)).2.2, (f4 o (by simp; omega)).2.2, (f3 o (by simp; omega)).2.2, f2.2.2.1, (f1 o (by simp; omega)).2.2]
  refine KO (adL S a v3 v4) (a.2.2 + 2 + 2 + 1) u (by rw [eL, andT_ok he1, andT_ok he2, andT_ok he3, andT_ok he4, andT_ok he5]) (by omega) (by show a.1.length ≤ _; omega) hok (F5.tr (fu.mono (by intro y hy; simp at hy; simp [lsO]; omega))) rr (TkC_fr t5 fu fun x h1 h2 => by simp; omega) ⟨⟨ho, ⟨?_, ?_⟩, ?_⟩, ?_, fun i hi => ?_⟩
  · rw [oI _ _ (by omega) (by omega) (by omega) (by omega)]; exact h8
  · rw [oI _ _ (by omega) (by omega) (by omega) (by omega)]; exact h9
  · exact rwC_fr (fu (o + 4) (by simp)).1 (fu (o + 5) (by simp)).1 h53
  · rw [hu, sI_at]; rfl
  · have hi : i < S.k + 1 := hi
    show u.1 (o + 1) i = nI (upN S.lo S.k v3 i) ∧ u.1 (o + 2) i = nI (upN S.hi S.k v4 i) ∧ u.1 (o + 3) i = nI (upN S.st S.k a.1.length i)
    by_cases z : i = S.k
    · rw [z, upN_at, upN_at, upN_at, hu, sI_of _ _ (by omega), sI_of _ _ (by omega), sI_of _ _ (by omega), sI_at, sI_of _ _ (by omega), sI_of _ _ (by omega), sI_at, sI_of _ _ (by omega), sI_at]
      exact ⟨rfl, rfl, rfl⟩
    · rw [upN_ne z, upN_ne z, upN_ne z, oI _ _ (by omega) (by omega) (by omega) (by omega), oI _ _ (by omega) (by omega) (by omega) (by omega), oI _ _ (by omega) (by omega) (by omega) (by omega)]
      exact h55 i (by show i < S.k; omega)
theorem c52g (hn : n ≤ 500) (hb : ∀ i, b i < 256) (hm : mk ≤ 6) (ho : o = 32 ∨ o = 39) : ∀ (f i e : Nat) (S : Lw) (j : Nat) (σ : Mem), i + f = 502 → i ≤ 500 → i ≤ j → TkC b n law j σ → LwC o S σ → LwOk mk S → S.P.length ≤ j → MkC r mk nm σ → σ.2.2 o 1 = r →
    (∀ x s, rLs (tok b n law) mk nm f S j = .error x → Fr (lsO o) σ s → FaC x s → Q (some (.int 0)) s) →
    (∀ S' s, rLs (tok b n law) mk nm f S j = .ok S' → LwOk mk S' → Fr (lsO o) σ s → LwC o S' s → s.1 1 1 = 0 ∧ s.1 1 2 = -1 → Q (some (.int 1)) s) → G Θ (e + 101 + 1) 52 30 [some (.ref o), none, some (.int (nI i))] [] σ Q
  | 0, i, e, S, j, σ, hi, hi', hij, h, hS, hk, hl, hM, hr, KE, KO => by omega
  | f + 1, i, e, S, j, σ, hi, hi', hij, h, hS, hk, hl, hM, hr, KE, KO => by
    have hn13 : n ≤ 1300 := by omega
    have b4 := (tok_b (law := law) (b := b) hn13 j).1
    have l : nI (tok b n law j).1 = 0 ↔ (tok b n law j).1 = 0 := kd_eq (c := 0) b4 (by omega)
    refine B52_30 (o_s ho) ⟨fun q => absurd q (nI_nlt (a := 500) hi' (by omega)), fun _ => ?_⟩
    rw [h.2.2.2.1, l]
    refine ⟨fun hz => KO S σ (if_pos hz) hk Fr.rfl hS h.2.1, fun hz => ?_⟩
    have eB : rLs (tok b n law) mk nm (f + 1) S j = andT (rLl (tok b n law) mk nm S j) fun a => rLs (tok b n law) mk nm f a.1 a.2 := if_neg hz
    have := tok_lt hn13 hz
    refine c53 (e := e) hn hb hm h hS hk hl hM hr (fun x s he fr t => ⟨_, rfl, fun z => absurd rfl z, fun _ => KE x s (by rw [eB, andT_er he]) fr t⟩) fun S' j' s he hj hl' hk' fr rr t hS' => ⟨_, rfl, fun _ => ?_, fun z => absurd z (by decide)⟩
    have eR : rLs (tok b n law) mk nm (f + 1) S j = rLs (tok b n law) mk nm f S' j' := by rw [eB, andT_ok he]
    rw [nI_1]
    exact c52g hn hb hm ho f (i + 1) e S' j' s (by omega) (by omega) (by omega) t hS' hk' hl' (MkC_f hM ho fr) (by rw [rr]; exact hr) (fun x s' he' f' t' => KE x s' (by rw [eR]; exact he') (fr.tr f') t') fun S'' s' he' hk'' f' hS'' h12 => KO S'' s' (by rw [eR]; exact he') hk'' (fr.tr f') hS'' h12
theorem c52 {e : Nat} (hn : n ≤ 500) (hb : ∀ i, b i < 256) (hm : mk ≤ 6) (ho : o = 32 ∨ o = 39) (hT : TpC b n σ) (hM : MkC r mk nm σ)
    (KE : ∀ x s, rLs (tok b n true) mk nm 502 emL 0 = .error x → Fr (lsO o) σ s → FaC x s → Q (some (.int 0)) s)
    (KO : ∀ S s, rLs (tok b n true) mk nm 502 emL 0 = .ok S → LwOk mk S → Fr (lsO o) σ s → LwC o S s → s.1 1 1 = 0 ∧ s.1 1 2 = -1 → Q (some (.int 1)) s) : Cm Θ (e + 102) 52 [.ref o, .ref r] σ Q := by
  refine K52 (B52_0 (o_s ho) (bk_s hM.1) ⟨by have := hM.1; omega, ?_⟩)
  obtain ⟨s0, hs0⟩ : ∃ s0, s0 = sI (sI (sI (sR σ o 1 r) o 2 0) o 8 0) o 9 0 := ⟨_, rfl⟩
  rw [← hs0]
  have f0 : Fr [o] σ s0 := by rw [hs0]; exact (((Fr.rfl.R (by simp)).I (by simp)).I (by simp)).I (by simp)
  have F0 : Fr (lsO o) σ s0 := f0.mono (by intro x hx; simp at hx; subst hx; simp [lsO])
  have hT0 : TpC b n s0 := ⟨by rw [(f0 1 (by simp; omega)).1]; exact hT.1, fun i hi => by rw [(f0 2 (by simp; omega)).1]; exact hT.2 i hi⟩
  have rr : s0.2.2 o 1 = r := by rw [hs0, sI_R, sI_R, sI_R, sR_at]
  refine c101 (d := e + 96) (law := true) (by omega) hb hT0 fun s1 f1 t1 => ⟨rfl, ?_⟩
  have F1 : Fr (lsO o) σ s1 := F0.tr (f1.mono (by intro x hx; simp at hx; simp [lsO]; omega))
  have eo := (f1 o (by simp; omega)).1
  have hS : LwC o emL s1 := by
    refine ⟨⟨ho, ⟨?_, ?_⟩, True.intro⟩, ?_, fun i hi => absurd hi (Nat.not_lt_zero i)⟩
    · rw [eo, hs0, sI_of _ _ (by omega), sI_at]; rfl
    · rw [eo, hs0, sI_at]; rfl
    · rw [eo, hs0, sI_of _ _ (by omega), sI_of _ _ (by omega), sI_at]; rfl
  exact c52g (r := r) hn hb hm ho 502 0 e emL 0 s1 rfl (by omega) (Nat.le_refl _) t1 hS (ok_emL mk) (Nat.zero_le _) (MkC_f hM ho F1) (by rw [(f1 o (by simp; omega)).2.2]; exact rr) (fun x s he f t => KE x s he (F1.tr f) t) fun S s he hk f hS' h12 => KO S s he hk (F1.tr f) hS' h12
end cl2
