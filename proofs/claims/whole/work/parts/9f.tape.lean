/-! CONTRACTS: the class's tape: open, next, what stands here -/
/-- the table of tokens, the last of them the end -/
def TbC (b : Nat → Nat) (n : Nat) (law : Bool) (T : Nat) (σ : Mem) : Prop :=
  T ≤ n ∧ (tok b n law T).1 = 0 ∧ σ.1 1 10 = nI (T + 1) ∧ ∀ s, s ≤ T → σ.1 3 s = nI (tok b n law s).1 ∧ σ.1 4 s = nI (tok b n law s).2.1 ∧ ((tok b n law s).1 ≠ 4 → σ.2.1 5 s = jJ (((tok b n law s).2.2 : Nat) : Int))
/-- token j stands here, no fault yet -/
def TkC (b : Nat → Nat) (n : Nat) (law : Bool) (j : Nat) (σ : Mem) : Prop :=
  σ.1 1 0 = nI n ∧ (σ.1 1 1 = 0 ∧ σ.1 1 2 = -1) ∧ (∃ T, TbC b n law T σ ∧ (∀ s, s < T → (tok b n law s).1 ≠ 0) ∧ ∃ w, w ≤ T ∧ (w = j ∨ (w = T ∧ T ≤ j)) ∧ σ.1 1 11 = nI w) ∧
  (σ.1 1 3 = nI (tok b n law j).1 ∧ σ.1 1 4 = nI (tok b n law j).2.1 ∧ ((tok b n law j).1 ≠ 4 → σ.2.1 1 5 = jJ (((tok b n law j).2.2 : Nat) : Int)))
def rdN (σ : Mem) (w : Nat) : Mem := sL (sI (sI σ 1 3 (σ.1 3 w)) 1 4 (σ.1 4 w)) 1 5 (σ.2.1 5 w)
theorem rd_fin {s : Mem} {w : Nat} {Q : Po} (h : s.1 1 11 = nI w) (hw : w ≤ 1300) (k : Q none (rdN s w)) : (vp_in (s.1 1 11) 1301 ∧ (vp_in ((sI s 1 3 (s.1 3 (s.1 1 11).toNatClampNeg)).1 1 11) 1301 ∧ (vp_in ((sI (sI s 1 3 (s.1 3 (s.1 1 11).toNatClampNeg)) 1 4 ((sI s 1 3 (s.1 3 (s.1 1 11).toNatClampNeg)).1 4 ((sI s 1 3 (s.1 3 (s.1 1 11).toNatClampNeg)).1 1 11).toNatClampNeg)).1 1 11) 1301 ∧ Q none (sL (sI (sI s 1 3 (s.1 3 (s.1 1 11).toNatClampNeg)) 1 4 ((sI s 1 3 (s.1 3 (s.1 1 11).toNatClampNeg)).1 4 ((sI s 1 3 (s.1 3 (s.1 1 11).toNatClampNeg)).1 1 11).toNatClampNeg)) 1 5 ((sI (sI s 1 3 (s.1 3 (s.1 1 11).toNatClampNeg)) 1 4 ((sI s 1 3 (s.1 3 (s.1 1 11).toNatClampNeg)).1 4 ((sI s 1 3 (s.1 3 (s.1 1 11).toNatClampNeg)).1 1 11).toNatClampNeg)).2.1 5 ((sI (sI s 1 3 (s.1 3 (s.1 1 11).toNatClampNeg)) 1 4 ((sI s 1 3 (s.1 3 (s.1 1 11).toNatClampNeg)).1 4 ((sI s 1 3 (s.1 3 (s.1 1 11).toNatClampNeg)).1 1 11).toNatClampNeg)).1 1 11).toNatClampNeg))))) := by
  have vm : vp_in (nI w) 1301 := vp_in_nI (by omega) (by decide)
  have e1 : ∀ v, (sI s 1 3 v).1 1 11 = nI w := fun v => by rw [sI_of _ _ (by omega), h]
  have e2 : ∀ v u, (sI (sI s 1 3 v) 1 4 u).1 1 11 = nI w := fun v u => by rw [sI_of _ _ (by omega), e1]
  have e3 : ∀ v, (sI s 1 3 v).1 4 = s.1 4 := fun v => sI_ne (by decide)
  rw [h, nI_clamp (by omega), e1, nI_clamp (by omega), e3, e2, nI_clamp (by omega), sI_L, sI_L]
  exact ⟨vm, vm, vm, k⟩
section tap
variable {Θ : Th} {d : Nat} {σ : Mem} {Q : Po} {b : Nat → Nat} {n : Nat} {law : Bool}
theorem rdN_fr {w : Nat} : Fr [1] σ (rdN σ w) := ((Fr.rfl.I (by decide)).I (by decide)).L (by decide)
theorem TbC_fr {σ' : Mem} {T : Nat} (h : TbC b n law T σ) (hf : Fr [1] σ σ') (h10 : σ'.1 1 10 = σ.1 1 10) : TbC b n law T σ' := by
  obtain ⟨a1, a2, a3, a4⟩ := h
  refine ⟨a1, a2, by rw [h10]; exact a3, fun s hs => ?_⟩
  rw [(hf 3 (by decide)).1, (hf 4 (by decide)).1, (hf 5 (by decide)).2.1]
  exact a4 s hs
theorem rdN_at {w : Nat} : (rdN σ w).1 1 3 = σ.1 3 w ∧ (rdN σ w).1 1 4 = σ.1 4 w ∧ (rdN σ w).2.1 1 5 = σ.2.1 5 w ∧ ∀ x, x ≠ 3 → x ≠ 4 → (rdN σ w).1 1 x = σ.1 1 x := by
  unfold rdN
  refine ⟨?_, ?_, ?_, fun x h3 h4 => ?_⟩
  · rw [sL_I, sI_of _ _ (by omega), sI_at]
  · rw [sL_I, sI_at]
  · rw [sL_at]
  · rw [sL_I, sI_of _ _ (by omega), sI_of _ _ (by omega)]
theorem sgb_is {v c : Nat} (hv : v < 256) (h : sgb v = (c : Int)) : v = c := by
  unfold sgb at h; split at h <;> omega
/-- from place z (before the first: -1) to the next -/
theorem c102z {T w : Nat} {z : Int} (hn : n ≤ 1300) (h0 : σ.1 1 0 = nI n) (h1 : σ.1 1 1 = 0 ∧ σ.1 1 2 = -1) (hT : TbC b n law T σ) (hs : ∀ s, s < T → (tok b n law s).1 ≠ 0) (hz : σ.1 1 11 = iI z) (hw : (z < T ∧ (w : Int) = z + 1) ∨ (z = T ∧ w = T)) (hz' : -1 ≤ z)
    (K : ∀ σ', Fr [1] σ σ' → TkC b n law w σ' → (∀ j, T ≤ j → w = T → TkC b n law j σ') → Q none σ') : Cm Θ d 102 [.ref 1] σ Q := by
  have hTn := hT.1
  have e10 : σ.1 1 10 - 1 = nI T := by rw [hT.2.2.1, nI_pred]
  have fin : ∀ s, Fr [1] σ s → s.1 1 11 = nI w → (∀ x, x ≠ 11 → s.1 1 x = σ.1 1 x) → Q none (rdN s w) := fun s hf h11 ho => by
    have hwT : w ≤ T := by omega
    obtain ⟨r1, r2, r3, r4⟩ := rdN_at (σ := s) (w := w)
    have hTs := TbC_fr hT hf (ho 10 (by omega))
    have hf' := hf.tr (rdN_fr (w := w))
    have hTr := TbC_fr hT hf' (by rw [r4 10 (by omega) (by omega), ho 10 (by omega)])
    obtain ⟨c1, c2, c3⟩ := hTs.2.2.2 w hwT
    have tk : ∀ j, (w = j ∨ (w = T ∧ T ≤ j)) → tok b n law j = tok b n law w → TkC b n law j (rdN s w) := fun j hj e => by
      refine ⟨by rw [r4 0 (by omega) (by omega), ho 0 (by omega)]; exact h0, ⟨by rw [r4 1 (by omega) (by omega), ho 1 (by omega)]; exact h1.1, by rw [r4 2 (by omega) (by omega), ho 2 (by omega)]; exact h1.2⟩, ⟨T, hTr, hs, w, hwT, hj, by rw [r4 11 (by omega) (by omega)]; exact h11⟩, ?_⟩
      rw [e, r1, r2, r3]
      exact ⟨c1, c2, c3⟩
    refine K _ hf' (tk w (Or.inl rfl) rfl) fun j hj hw => tk j (Or.inr ⟨hw, hj⟩) ?_
    have := tok_ends hn hT.2.1 (j - T)
    rw [show T + (j - T) = j by omega] at this
    rw [this, hw]
  refine K102 (B102_0 ?_)
  rw [e10, hz]
  have l : nI T ≤ iI z ↔ (T : Int) ≤ z := by rw [iI_nI]; exact iI_le (by omega) (by omega) (by omega) (by omega)
  rw [l]
  refine ⟨fun h => ?_, fun h => ?_⟩
  · have hw' : w = T := by omega
    have h11 : σ.1 1 11 = nI w := by rw [hz, iI_nI]; congr 1; omega
    have := rd_fin (Q := Q) h11 (by omega) (fin σ Fr.rfl h11 fun x _ => rfl)
    rw [hz] at this
    exact this
  · obtain ⟨s, hS⟩ : ∃ s, s = sI σ 1 11 (σ.1 1 11 + 1) := ⟨_, rfl⟩
    have h11 : s.1 1 11 = nI w := by rw [hS, sI_at, hz, iI_nI, show (1 : Int32) = iI 1 from rfl, iI_add]; congr 1; omega
    have := rd_fin (Q := Q) h11 (by omega) (fin s (by rw [hS]; exact Fr.rfl.I (by decide)) h11 fun x hx => by rw [hS]; exact sI_of _ _ (by omega))
    rw [hS, hz] at this
    exact this
theorem c102 {j : Nat} (hn : n ≤ 1300) (h : TkC b n law j σ) (K : ∀ σ', Fr [1] σ σ' → TkC b n law (j + 1) σ' → Q none σ') : Cm Θ d 102 [.ref 1] σ Q := by
  obtain ⟨h0, h1, ⟨T, hT, hs, w, hw, hj, h11⟩, -⟩ := h
  rcases hj with hj | ⟨hj, hT'⟩
  · subst hj
    rcases Nat.lt_or_ge w T with q | q
    · exact c102z (T := T) (w := w + 1) (z := w) hn h0 h1 hT hs (by rw [h11, iI_nI]) (Or.inl ⟨by omega, by omega⟩) (by omega) fun σ' f k _ => K σ' f k
    · exact c102z (T := T) (w := T) (z := w) hn h0 h1 hT hs (by rw [h11, iI_nI]) (Or.inr ⟨by omega, rfl⟩) (by omega) fun σ' f k kk => K σ' f (kk _ (by omega) rfl)
  · exact c102z (T := T) (w := T) (z := w) hn h0 h1 hT hs (by rw [h11, iI_nI]) (Or.inr ⟨by omega, rfl⟩) (by omega) fun σ' f k kk => K σ' f (kk _ (by omega) rfl)
theorem nt_at {t x : Nat} {kd pl : Int32} {v : Int64} : ((nt σ t kd pl v).1 3 t = kd ∧ (nt σ t kd pl v).1 4 t = pl ∧ (nt σ t kd pl v).2.1 5 t = v ∧ (nt σ t kd pl v).1 1 10 = nI (t + 1)) ∧ (x ≠ t → (nt σ t kd pl v).1 3 x = σ.1 3 x ∧ (nt σ t kd pl v).1 4 x = σ.1 4 x ∧ (nt σ t kd pl v).2.1 5 x = σ.2.1 5 x) ∧ (x ≠ 10 → (nt σ t kd pl v).1 1 x = σ.1 1 x) := by
  unfold nt
  refine ⟨⟨?_, ?_, ?_, ?_⟩, fun hx => ⟨?_, ?_, ?_⟩, fun hx => ?_⟩
  · rw [sI_of _ _ (by omega), sL_I, sI_of _ _ (by omega), sI_at]
  · rw [sI_of _ _ (by omega), sL_I, sI_at]
  · rw [sI_L, sL_at]
  · rw [sI_at]
  · rw [sI_of _ _ (by omega), sL_I, sI_of _ _ (by omega), sI_of _ _ (by omega)]
  · rw [sI_of _ _ (by omega), sL_I, sI_of _ _ (by omega), sI_of _ _ (by omega)]
  · rw [sI_L, sL_of _ _ (by omega), sI_L, sI_L]
  · rw [sI_of _ _ (by omega), sL_I, sI_of _ _ (by omega), sI_of _ _ (by omega)]
theorem nt_fr {t : Nat} {kd pl : Int32} {v : Int64} : Fr [1, 3, 4, 5] σ (nt σ t kd pl v) := (((Fr.rfl.I (by decide)).I (by decide)).L (by decide)).I (by decide)
theorem c101 (hn : n ≤ 1300) (hb : ∀ i, b i < 256) (hT : TpC b n σ) (K : ∀ σ', Fr [1, 3, 4, 5] σ σ' → TkC b n law 0 σ' → Q none σ') : Cm Θ (d + 5) 101 [.ref 1, .int (if law then 1 else 0)] σ Q := by
  let rows : Nat → Mem → Prop := fun t s => ∀ u, u < t → (s.1 3 u = nI (tok b n law u).1 ∧ s.1 4 u = nI (tok b n law u).2.1 ∧ ((tok b n law u).1 ≠ 4 → s.2.1 5 u = jJ (((tok b n law u).2.2 : Nat) : Int))) ∧ (tok b n law u).1 ≠ 0
  let I : Nat → Mem × Nat × Nat → Prop := fun i z => Fr [1, 3, 4, 5] σ z.1 ∧ (z.1.1 1 0 = nI n ∧ z.1.1 1 1 = 0 ∧ z.1.1 1 2 = -1 ∧ z.1.1 1 10 = nI z.2.1) ∧ rows z.2.1 z.1 ∧ (z.2.2 ≤ n ∧ i ≤ z.2.2 ∧ z.2.1 ≤ z.2.2) ∧ tkn b n law z.2.2 = tkn b n law (pos b n law z.2.1)
  have fin : ∀ s t, Fr [1, 3, 4, 5] σ s → (s.1 1 0 = nI n ∧ s.1 1 1 = 0 ∧ s.1 1 2 = -1 ∧ s.1 1 10 = nI t) → rows t s → t ≤ n → tkn b n law n = tkn b n law (pos b n law t) → Cv Θ (d + 4) 103 [.ref 1, .int 0, .int (s.1 1 0), .long 0] s (fun σ2 => Cv Θ (d + 4) 102 [.ref 1] (sI σ2 1 11 (-1)) (fun σ3 => Q none σ3)) := fun s t hf ⟨a0, a1, a2, a3⟩ hr ht he => by
    refine c103 a3 (by omega) ⟨rfl, ?_⟩
    rw [a0]
    have hend : tok b n law t = (0, n, 0) := by
      unfold tok; rw [← he, tkn_no (by unfold inB; simp), if_pos (Nat.le_refl _)]
    obtain ⟨s', hS⟩ : ∃ s', s' = sI (nt s t 0 (nI n) 0) 1 11 (-1) := ⟨_, rfl⟩
    show Cv Θ (d + 4) 102 [.ref 1] (sI (nt s t 0 (nI n) 0) 1 11 (-1)) (fun σ3 => Q none σ3)
    rw [← hS]
    have o1 : ∀ x, x ≠ 10 → x ≠ 11 → s'.1 1 x = s.1 1 x := fun x h h' => by rw [hS, sI_of _ _ (by omega)]; exact (nt_at (t := t)).2.2 h
    have f' : Fr [1, 3, 4, 5] s s' := by rw [hS]; exact nt_fr.I (by decide)
    have o3 : ∀ u, s'.1 3 u = (nt s t 0 (nI n) 0).1 3 u ∧ s'.1 4 u = (nt s t 0 (nI n) 0).1 4 u ∧ s'.2.1 5 u = (nt s t 0 (nI n) 0).2.1 5 u := fun u => by
      rw [hS]; exact ⟨sI_of _ _ (by omega), sI_of _ _ (by omega), rfl⟩
    have hTb : TbC b n law t s' := by
      refine ⟨ht, by rw [hend], ?_, fun u hu => ?_⟩
      · rw [hS, sI_of _ _ (by omega)]; exact (nt_at (x := 0)).1.2.2.2
      · rw [(o3 u).1, (o3 u).2.1, (o3 u).2.2]
        by_cases z : u = t
        · subst z
          obtain ⟨⟨b1, b2, b3, b4⟩, -⟩ := nt_at (σ := s) (t := u) (x := 0) (kd := 0) (pl := nI n) (v := 0)
          rw [b1, b2, b3, hend]
          exact ⟨rfl, rfl, fun _ => rfl⟩
        · obtain ⟨b1, b2, b3⟩ := (nt_at (σ := s) (t := t) (x := u) (kd := 0) (pl := nI n) (v := 0)).2.1 z
          rw [b1, b2, b3]
          exact (hr u (by omega)).1
    refine c102z (T := t) (w := 0) (z := -1) hn (by rw [o1 0 (by omega) (by omega)]; exact a0) ⟨by rw [o1 1 (by omega) (by omega)]; exact a1, by rw [o1 2 (by omega) (by omega)]; exact a2⟩ hTb (fun u hu => (hr u hu).2) (by rw [hS, sI_at]; rfl) (Or.inl ⟨by omega, by omega⟩) (by omega) fun σ' f k _ => ⟨rfl, K σ' ((hf.tr f').tr (f.mono (by simp))) k⟩
  refine K101 (B101_0 ?_)
  have f0 : Fr [1, 3, 4, 5] σ (sI (sI (sI σ 1 1 0) 1 2 (-1)) 1 10 0) := ((Fr.rfl.I (by decide)).I (by decide)).I (by decide)
  have start := loopS (α := Mem × Nat × Nat) (I := I) (P := fun i z => G Θ (d + 5) 101 19 [some (.ref 1), some (.int (if law then 1 else 0)), some (.int (nI z.2.2)), some (.int (nI i)), none] [] z.1 Q) n ?_ ?_ (sI (sI (sI σ 1 1 0) 1 2 (-1)) 1 10 0, 0, 0) ⟨f0, ⟨?_, ?_, ?_, ?_⟩, fun u hu => absurd hu (Nat.not_lt_zero u), ⟨Nat.zero_le _, Nat.le_refl _, Nat.le_refl _⟩, rfl⟩
  · exact start
  · intro ⟨s, t, at'⟩ ⟨hf, ha, hr, ⟨hl, hi, ht⟩, he⟩
    have ha : s.1 1 0 = nI n ∧ s.1 1 1 = 0 ∧ s.1 1 2 = -1 ∧ s.1 1 10 = nI t := ha
    have hl : at' ≤ n := hl
    have hi : n ≤ at' := hi
    have ht : t ≤ at' := ht
    have e : at' = n := by omega
    subst e
    have q := fin s t hf ha hr ht he
    show G Θ (d + 5) 101 19 [some (.ref 1), some (.int (if law then 1 else 0)), some (.int (nI at')), some (.int (nI at')), none] [] s Q
    refine B101_19 ⟨fun _ => q, fun _ => ⟨fun _ => q, fun h => ?_⟩⟩
    rw [ha.1] at h; exact absurd (nI_le (Nat.le_refl _) (by omega)) h
  · intro i ⟨s, t, at'⟩ hi ⟨hf, ha, hr, ⟨hl, hi', ht⟩, he⟩ ih
    have hf : Fr [1, 3, 4, 5] σ s := hf
    have ha : s.1 1 0 = nI n ∧ s.1 1 1 = 0 ∧ s.1 1 2 = -1 ∧ s.1 1 10 = nI t := ha
    have hl : at' ≤ n := hl
    have hi' : i ≤ at' := hi'
    have ht : t ≤ at' := ht
    have hr : rows t s := hr
    have he : tkn b n law at' = tkn b n law (pos b n law t) := he
    have hTs : TpC b n s := ⟨ha.1, fun k hk => by rw [(hf 2 (by decide)).1]; exact hT.2 k hk⟩
    show G Θ (d + 5) 101 19 [some (.ref 1), some (.int (if law then 1 else 0)), some (.int (nI at')), some (.int (nI i)), none] [] s Q
    refine B101_19 ⟨fun h => absurd h (nI_ge (b := 1300) (by omega) (by omega)), fun _ => ⟨fun h => ?_, fun h => ?_⟩⟩
    · rw [ha.1] at h
      rcases Nat.lt_or_ge at' n with q | q
      · exact absurd h (nI_ge q (by omega))
      · have e : at' = n := by omega
        subst e
        exact fin s t hf ha hr ht he
    · rw [ha.1] at h
      have hlt : at' < n := by
        rcases Nat.lt_or_ge at' n with q | q
        · exact q
        · exact absurd (nI_le q (by omega)) h
      have vm : vp_in (nI at') 1300 := vp_in_nI (by omega) (by decide)
      rw [nI_clamp (by omega), hTs.2 _ hlt, nI_1, nI_1]
      have l1 : iI (sgb (b at')) = 32 ↔ sgb (b at') = 32 := (sgb_cmp (hb at') (show 32 < 128 by decide)).2.2
      have l2 : iI (sgb (b at')) = 10 ↔ sgb (b at') = 10 := (sgb_cmp (hb at') (show 10 < 128 by decide)).2.2
      rw [l1, l2]
      have blank : isB (b at') = true → G Θ (d + 5) 101 19 [some (.ref 1), some (.int (if law then 1 else 0)), some (.int (nI (at' + 1))), some (.int (nI (i + 1))), none] [] s Q := fun h => by
        refine ih (s, t, at' + 1) ⟨hf, ha, hr, ⟨hlt, by show i + 1 ≤ at' + 1; omega, by show t ≤ at' + 1; omega⟩, ?_⟩
        show tkn b n law (at' + 1) = _
        rw [← tkn_sk hn (by unfold inB; rw [h, decide_eq_true hlt]; rfl)]
        exact he
      refine ⟨vm, fun h => blank (by unfold isB; rw [sgb_is (hb at') h]; rfl), fun h32 => ⟨vm, fun h10 => ?_, fun h => blank (by unfold isB; rw [sgb_is (hb at') h]; rfl)⟩⟩
      have nb : inB b n at' = false := by
        have q1 : b at' ≠ 32 := fun z => h32 (by rw [z]; rfl)
        have q2 : b at' ≠ 10 := fun z => h10 (by rw [z]; rfl)
        unfold inB isB; simp [q1, q2]
      have eA : tkn b n law at' = tkA b n law at' := by rw [tkn_no nb, if_neg (by omega)]
      obtain ⟨b1, b2, b3, b4, b5⟩ := tkA_b (law := law) hn hlt (b := b)
      have et : tok b n law t = (tkA b n law at').1 := by unfold tok; rw [← he, eA]
      have ep : pos b n law (t + 1) = (tkA b n law at').2 := by show (tkn b n law (pos b n law t)).2 = _; rw [← he, eA]
      refine c104 hn hb hTs ha.2.2.2 (by omega) hlt fun x hx => ⟨_, rfl, ?_⟩
      have o : ∀ y, _ := fun y => nt_at (σ := s) (t := t) (kd := nI (tkA b n law at').1.1) (pl := nI at') (v := x) (x := y)
      refine ih (nt s t (nI (tkA b n law at').1.1) (nI at') x, t + 1, (tkA b n law at').2) ⟨hf.tr nt_fr, ⟨?_, ?_, ?_, ?_⟩, fun u hu => ?_, ⟨b5, by show i + 1 ≤ (tkA b n law at').2; omega, by show t + 1 ≤ (tkA b n law at').2; omega⟩, by show tkn b n law _ = tkn b n law (pos b n law (t + 1)); rw [ep]⟩
      · show (nt s t (nI (tkA b n law at').1.1) (nI at') x).1 1 0 = nI n
        rw [(o 0).2.2 (by omega)]; exact ha.1
      · show (nt s t (nI (tkA b n law at').1.1) (nI at') x).1 1 1 = 0
        rw [(o 1).2.2 (by omega)]; exact ha.2.1
      · show (nt s t (nI (tkA b n law at').1.1) (nI at') x).1 1 2 = -1
        rw [(o 2).2.2 (by omega)]; exact ha.2.2.1
      · exact (o 0).1.2.2.2
      · show ((nt s t (nI (tkA b n law at').1.1) (nI at') x).1 3 u = _ ∧ (nt s t (nI (tkA b n law at').1.1) (nI at') x).1 4 u = _ ∧ (_ → (nt s t (nI (tkA b n law at').1.1) (nI at') x).2.1 5 u = _)) ∧ _
        have hu : u < t + 1 := hu
        by_cases z : u = t
        · subst z
          obtain ⟨⟨c1, c2, c3, c4⟩, -⟩ := o 0
          rw [c1, c2, c3, et]
          exact ⟨⟨rfl, by rw [b3], hx⟩, b1⟩
        · obtain ⟨c1, c2, c3⟩ := (o u).2.1 z
          rw [c1, c2, c3]
          exact hr u (by omega)
  · show (sI (sI (sI σ 1 1 0) 1 2 (-1)) 1 10 0).1 1 0 = nI n
    rw [sI_of _ _ (by omega), sI_of _ _ (by omega), sI_of _ _ (by omega)]; exact hT.1
  · show (sI (sI (sI σ 1 1 0) 1 2 (-1)) 1 10 0).1 1 1 = 0
    rw [sI_of _ _ (by omega), sI_of _ _ (by omega), sI_at]
  · show (sI (sI (sI σ 1 1 0) 1 2 (-1)) 1 10 0).1 1 2 = -1
    rw [sI_of _ _ (by omega), sI_at]
  · show (sI (sI (sI σ 1 1 0) 1 2 (-1)) 1 10 0).1 1 10 = nI 0
    rw [sI_at]; rfl
end tap
