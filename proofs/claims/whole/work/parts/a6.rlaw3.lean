/-! CONTRACTS: the reference reads an expression: what the class's readLevel reads -/
def thr (L : Nat) : Nat := if L = 0 then 20 else if L = 1 then 21 else if L = 2 then 22 else if L = 3 then 26 else if L = 4 then 28 else 29
def thp (L : Nat) : Nat := if L = 0 then 0 else if L = 1 then 21 else if L = 2 then 23 else if L = 3 then 26 else if L = 4 then 28 else 29
def PdOk (L : Nat) (p : List Nat) : Prop := ∀ c, c ∈ p → (6 ≤ c ∧ c ≤ 14) ∧ thr L ≤ rcd c
def StW (L : Nat) (W : List Nat) : Prop := upW W = 30 ∨ upW W < thp L
def TlI (t : Tk) (L : Nat) (p : List Nat) : Prop :=
  (∀ l, L ≤ l → l ≤ 4 → l ≠ 2 → sgL t l = none) ∧ (L ≤ 2 → sgL t 2 ≠ none → ∃ p1 c p2, p = p1 ++ c :: p2 ∧ (∀ x, x ∈ p1 → x ≠ 15 ∧ 26 ≤ rcd x) ∧ 9 ≤ c ∧ c ≤ 11)
theorem TlI_app {t : Tk} {L : Nat} {p q : List Nat} (h : TlI t L p) : TlI t L (p ++ q) :=
  ⟨h.1, fun h1 h2 => by
    obtain ⟨p1, c, p2, e, x, y⟩ := h.2 h1 h2
    exact ⟨p1, c, p2 ++ q, by rw [e]; simp, x, y⟩⟩
theorem PdOk_mono {L L' : Nat} {p : List Nat} (h : PdOk L p) (hl : thr L' ≤ thr L) : PdOk L' p := fun c hc => ⟨(h c hc).1, Nat.le_trans hl (h c hc).2⟩
theorem PdOk_app {L : Nat} {p q : List Nat} (h : PdOk L p) (h' : PdOk L q) : PdOk L (p ++ q) := fun c hc => by
  rcases List.mem_append.mp hc with z | z
  · exact h c z
  · exact h' c z
theorem thr_s {L : Nat} (h : L ≤ 4) : thr L ≤ thr (L + 1) ∧ thp L ≤ thp (L + 1) := by
  have : ∀ x : Fin 5, thr x.val ≤ thr (x.val + 1) ∧ thp x.val ≤ thp (x.val + 1) := by decide +kernel
  exact this ⟨L, by omega⟩
/-- how a sign of a level ranks -/
theorem lev_o {t : Tk} {L o : Nat} (h : sgL t L = some o) : thr L ≤ rcd o ∧ rcd o < thp (L + 1) ∧ (L ≠ 2 → rkn (rcd o) = thr L ∧ ¬ (9 ≤ o ∧ o ≤ 11)) ∧ (L ≤ 1 ↔ o = 7 ∨ o = 8) ∧ (L = 2 → 9 ≤ o ∧ o ≤ 11) ∧ 7 ≤ o ∧ o ≤ 14 ∧ L ≤ 4 := by
  obtain ⟨b1, b2, b3, b4, b5, b6, b7, b8⟩ := sgL_b h
  have k : (L = 0 ∧ o = 7) ∨ (L = 1 ∧ o = 8) ∨ (L = 2 ∧ o = 9) ∨ (L = 2 ∧ o = 10) ∨ (L = 2 ∧ o = 11) ∨ (L = 3 ∧ o = 12) ∨ (L = 3 ∧ o = 13) ∨ (L = 4 ∧ o = 14) := by omega
  rcases k with ⟨rfl, rfl⟩ | ⟨rfl, rfl⟩ | ⟨rfl, rfl⟩ | ⟨rfl, rfl⟩ | ⟨rfl, rfl⟩ | ⟨rfl, rfl⟩ | ⟨rfl, rfl⟩ | ⟨rfl, rfl⟩ <;> decide +kernel
theorem sgL_nl {t : Tk} {L o : Nat} (h : sgL t L = some o) : ¬ (t.1 = 1 ∧ t.2.2 = 465557353332) := by
  obtain ⟨l, -, h', -⟩ := sgA_of (sgA_is h)
  unfold sgL at h
  repeat' split at h
  all_goals first | (cases h; done) | (rename_i q; omega)
section rl3
variable {Θ : Th} {d : Nat} {σ : Mem} {Q : Po} {b : Nat → Nat} {n : Nat} {law : Bool} {W : List Nat} {O : List (Nat × Nat)} {u : Nat}
theorem c262x {e : Fa} {x : Int32} (t : FaR e σ) (K : Q none σ) : G Θ (d + 3 + 1) 262 54 [some (.ref 124), some (.int x)] [] σ Q :=
  B262_54 ⟨fun _ => B262_104 ⟨fun z => absurd z (FaR_n t).1, fun _ => K⟩, fun z => absurd z (FaR_n t).2⟩
theorem c262o {j now : Nat} (hnow : now = 0 ∨ now = 1) (h : TkR b n law j σ) (K : Ci Θ (d + 3) 260 [.ref 124, .int (nI now)] σ (fun v s => G Θ (d + 3 + 1) 262 54 [some (.ref 124), some (.int v)] [] s Q)) : G Θ (d + 3 + 1) 262 54 [some (.ref 124), some (.int (nI now))] [] σ Q := by
  have ne : ¬ nI now = 2 := fun z => by have := (nI_eq (b := 2) (by omega) (by omega)).mp z; omega
  exact B262_54 ⟨fun z => absurd (TkR_0 h).2 z, fun _ => ⟨fun _ => B262_83 ⟨fun _ => K, fun z => absurd z ne⟩, fun z => absurd z ne⟩⟩
theorem c262s {j : Nat} (hn : n ≤ 1300) (hb : ∀ i, b i < 256) (h : TkR b n law j σ) (hnl : ¬ ((tok b n law j).1 = 1 ∧ (tok b n law j).2.2 = 465557353332) ∨ opn W = true) (hW : WOk W) (hR : RsW W O u σ) (hl : W.length < 600)
    (K : Ci Θ (d + 3) 261 [.ref 124] σ (fun v s => G Θ (d + 3 + 1) 262 54 [some (.ref 124), some (.int v)] [] s Q)) : G Θ (d + 3 + 1) 262 54 [some (.ref 124), some (.int 2)] [] σ Q := by
  have k83 : G Θ (d + 3 + 1) 262 83 [some (.ref 124), some (.int 2)] [] σ Q := B262_83 ⟨fun z => absurd rfl z, fun _ => K⟩
  refine B262_54 ⟨fun z => absurd (TkR_0 h).2 z, fun _ => ⟨fun _ => k83, fun _ => ?_⟩⟩
  rw [w_least]
  refine ci (fun _ => c177 hn hb h (by decide)) ?_
  by_cases q : (tok b n law j).1 = 1 ∧ (tok b n law j).2.2 = 465557353332
  · rw [if_pos q]
    refine ⟨fun z => absurd z (by decide), fun _ => c256 hW hR hl ⟨_, rfl, ?_⟩⟩
    rw [hnl.resolve_left (fun z => z q)]
    exact ⟨fun z => absurd z (by decide), fun _ => k83⟩
  · rw [if_neg q]
    exact ⟨fun _ => k83, fun z => absurd rfl z⟩
/-- a sign that joins, at the reading's place -/
theorem c262j {j L o a : Nat} {pend W0 : List Nat} (hn : n ≤ 500) (hb : ∀ i, b i < 256) (h : TkR b n law j σ) (hs : sgL (tok b n law j) L = some o) (ha : a = if L = 2 then 26 else thr L) (hW : WOk (pend ++ W0)) (hp : ∀ c, c ∈ pend → c ≠ 15 ∧ a ≤ rcd c) (hst : upW W0 = 30 ∨ upW W0 < a) (hr : L = 2 → rkn (upW W0) ≠ 23) (hR : RsW (pend ++ W0) O u σ) (hl : (pend ++ W0).length + O.length ≤ j)
    (K : ∀ s now, now = (if L ≤ 1 then 0 else 1) → FrE σ s → RsW (o :: W0) (pops pend O) u s → TkR b n law (j + 1) s → G Θ (d + 3 + 1) 262 54 [some (.ref 124), some (.int (nI now))] [] s Q) : G Θ (d + 3 + 1) 262 54 [some (.ref 124), some (.int 2)] [] σ Q := by
  obtain ⟨o1, o2, o3, o4, o5, o6, o7, o8⟩ := lev_o hs
  have hn13 : n ≤ 1300 := by omega
  have eA := sgA_is hs
  obtain ⟨l', -, -, h4, h41⟩ := sgA_of eA
  have hz : (tok b n law j).1 ≠ 0 := by
    intro z
    unfold sgL at hs
    repeat' split at hs
    all_goals first | (cases hs; done) | (rename_i q; omega)
  have hj := tok_lt hn13 hz
  have rel : (9 ≤ o ∧ o ≤ 11) ↔ L = 2 := ⟨fun z => by
    by_cases q : L = 2
    · exact q
    · exact absurd z (o3 q).2, o5⟩
  refine c262s hn13 hb h (Or.inl (sgL_nl hs)) hW hR (by omega) (K261 (c261s hn13 hb h (fun _ => ?_) fun z => absurd z h41))
  rw [eA]
  refine c261j (d := d) (a := a) hn13 hb h h4 ⟨o6, o7⟩ ?_ hW hp hst hR (by omega) (fun _ s f hR' t => ⟨_, rfl, ?_⟩) fun z y s f t => absurd y (hr (rel.mp z))
  · by_cases q : L = 2
    · rw [ha, if_pos q, if_pos (rel.mpr q)]
    · rw [ha, if_neg q, if_neg (fun z => q (rel.mp z)), (o3 q).1]
  · have e : (if o = 7 ∨ o = 8 then (0 : Int32) else 1) = nI (if L ≤ 1 then 0 else 1) := by
      by_cases q : L ≤ 1
      · rw [if_pos (o4.mp q), if_pos q]; rfl
      · rw [if_neg (fun z => q (o4.mpr z)), if_neg q]; rfl
    rw [e]
    exact K s _ rfl f hR' t
/-- nothing that can go on -/
theorem c262e {j : Nat} {pend W0 : List Nat} (hn : n ≤ 500) (hb : ∀ i, b i < 256) (h : TkR b n law j σ) (hT : TlI (tok b n law j) 0 pend) (hW : WOk (pend ++ W0)) (h41 : (tok b n law j).1 = 3 ∧ (tok b n law j).2.2 = 41 → opn (pend ++ W0) = false) (hnl : ¬ ((tok b n law j).1 = 1 ∧ (tok b n law j).2.2 = 465557353332) ∨ opn (pend ++ W0) = true) (hR : RsW (pend ++ W0) O u σ) (hl : (pend ++ W0).length + O.length < 599)
    (KE : ∀ s, FrE σ s → FaR (flt 2 (tok b n law j)) s → Q none s) : G Θ (d + 3 + 1) 262 54 [some (.ref 124), some (.int 2)] [] σ Q := by
  have hn13 : n ≤ 1300 := by omega
  refine c262s hn13 hb h hnl hW hR (by omega) (K261 (c261s hn13 hb h (fun _ => ?_) fun z => ?_))
  · cases eA : sgA (tok b n law j) with
    | none => exact c261n hn13 hb h fun s f t => ⟨_, rfl, c262x t (KE s (frE_T f) t)⟩
    | some o =>
      obtain ⟨l, hl4, hs, h4, -⟩ := sgA_of eA
      by_cases q : l = 2
      · subst q
        obtain ⟨p1, c, p2, e, hp1, hc1, hc2⟩ := hT.2 (by omega) (by rw [hs]; simp)
        have ew : pend ++ W0 = p1 ++ (c :: p2 ++ W0) := by rw [e]; simp
        obtain ⟨o1, o2, o3, o4, o5, o6, o7, o8⟩ := lev_o hs
        rw [ew] at hW hR hl
        have hrc : rkn (rcd c) = 23 ∧ rcd c < 26 := by
          have : ∀ x : Fin 12, 9 ≤ x.val → rkn (rcd x.val) = 23 ∧ rcd x.val < 26 := by decide +kernel
          exact this ⟨c, by omega⟩ hc1
        refine c261j (d := d) (a := 26) hn13 hb h h4 ⟨o6, o7⟩ (by rw [if_pos (o5 rfl)]) hW hp1 (Or.inr hrc.2) hR hl (fun z s f hR' t => ?_) fun z y s f t => ⟨_, rfl, c262x t (KE s f t)⟩
        rcases z with z | z
        · exact absurd (o5 rfl) z
        · exact absurd hrc.1 z
      · have := hT.1 l (Nat.zero_le _) hl4 q
        rw [hs] at this; cases this
  · refine c256 hW hR (by omega) ⟨_, rfl, fun _ => ?_, fun y => ?_⟩
    · exact c261n hn13 hb h fun s f t => ⟨_, rfl, c262x t (KE s (frE_T f) t)⟩
    · rw [h41 z] at y; exact absurd rfl y
def P262 (Θ : Th) (d : Nat) (b : Nat → Nat) (n : Nat) (law : Bool) (mk : Nat) (nm : Nat → Nat) (f : Nat) : Prop :=
  ∀ (L w : Nat) (W : List Nat) (P : List (Nat × Nat)) (u j now : Nat) (σ : Mem) (Q : Po), L ≤ 5 → w ≤ 7 → (7 - w) * 6 + (6 - L) ≤ f → dpW W = w → StW L W → WOk W → (now = 0 ∨ now = 1) → (L ≤ 2 → now = 0) → (3 ≤ L → now = 0 → ¬ ((tok b n law j).1 = 1 ∧ (tok b n law j).2.2 = 7237492)) →
    TkR b n law j σ → RsW W P u σ → W.length + P.length ≤ j → u ≤ 50 → MkR mk nm σ →
    (∀ e s, rLv (tok b n law) mk nm f L w (P, u, j) = .error e → FrE σ s → FaR e s → Q none s) →
    (∀ c pend O' s, rLv (tok b n law) mk nm f L w (P, u, j) = .ok c → c.1 = pops pend O' → PdOk L pend → TlI (tok b n law c.2.2) L pend → FrE σ s → TkR b n law c.2.2 s → RsW (pend ++ W) O' c.2.1 s → (pend ++ W).length + O'.length ≤ c.2.2 → G Θ (d + 3 + 1) 262 54 [some (.ref 124), some (.int 2)] [] s Q) →
    G Θ (d + 3 + 1) 262 54 [some (.ref 124), some (.int (nI now))] [] σ Q
theorem WOk_app {p W : List Nat} {L : Nat} (h : PdOk L p) (h' : WOk W) : WOk (p ++ W) := fun c hc => by
  rcases List.mem_append.mp hc with z | z
  · have := (h c z).1; omega
  · exact h' c z
theorem dpW_o {o : Nat} {W : List Nat} (h : o ≠ 6) (h' : o ≠ 15) : dpW (o :: W) = dpW W := by
  show dpW W + (if o = 6 ∨ o = 15 then 1 else 0) = dpW W
  rw [if_neg (by omega)]; rfl
/-- joins of a level that is not that of the relations -/
theorem c262g {mk f L w : Nat} {nm : Nat → Nat} {W : List Nat} (hn : n ≤ 500) (hb : ∀ i, b i < 256) (hm : mk ≤ 6) (ih : P262 Θ d b n law mk nm f) (hL : L ≤ 4) (hL2 : L ≠ 2) (hw : w ≤ 7) (hf : (7 - w) * 6 + (5 - L) ≤ f) (hdw : dpW W = w) (hst : StW L W) (hW : WOk W) : ∀ (g : Nat) (P : List (Nat × Nat)) (pend : List Nat) (O : List (Nat × Nat)) (u j : Nat) (σ : Mem) (Q : Po), P = pops pend O → PdOk L pend → TlI (tok b n law j) (L + 1) pend → 51 ≤ g + u → u ≤ 50 → TkR b n law j σ → RsW (pend ++ W) O u σ → (pend ++ W).length + O.length ≤ j → MkR mk nm σ →
    (∀ e s, rJn (tok b n law) (rLv (tok b n law) mk nm f (L + 1) w) L g (P, u, j) = .error e → FrE σ s → FaR e s → Q none s) →
    (∀ c pend O' s, rJn (tok b n law) (rLv (tok b n law) mk nm f (L + 1) w) L g (P, u, j) = .ok c → c.1 = pops pend O' → PdOk L pend → TlI (tok b n law c.2.2) L pend → FrE σ s → TkR b n law c.2.2 s → RsW (pend ++ W) O' c.2.1 s → (pend ++ W).length + O'.length ≤ c.2.2 → G Θ (d + 3 + 1) 262 54 [some (.ref 124), some (.int 2)] [] s Q) →
    G Θ (d + 3 + 1) 262 54 [some (.ref 124), some (.int 2)] [] σ Q
  | 0, P, pend, O, u, j, σ, Q, hP, hp, hT, hg, hu, h, hR, hl, hM, KE, KO => by omega
  | g + 1, P, pend, O, u, j, σ, Q, hP, hp, hT, hg, hu, h, hR, hl, hM, KE, KO => by
    have hn13 : n ≤ 1300 := by omega
    cases eS : sgL (tok b n law j) L with
    | none =>
      have eJ : rJn (tok b n law) (rLv (tok b n law) mk nm f (L + 1) w) L (g + 1) (P, u, j) = .ok (P, u, j) := by
        show (match sgL (tok b n law j) L with | none => _ | some o => _) = _; rw [eS]
      refine KO (P, u, j) pend O σ eJ hP hp ⟨fun l h1 h2 h3 => ?_, fun h1 h2 => hT.2 (by omega) h2⟩ frE_rfl h hR hl
      by_cases z : l = L
      · rw [z]; exact eS
      · exact hT.1 l (by omega) h2 h3
    | some o =>
      obtain ⟨o1, o2, o3, o4, o5, o6, o7, o8⟩ := lev_o eS
      have eJ : rJn (tok b n law) (rLv (tok b n law) mk nm f (L + 1) w) L (g + 1) (P, u, j) = andT (rLv (tok b n law) mk nm f (L + 1) w (P, u, j + 1)) fun c => rJn (tok b n law) (rLv (tok b n law) mk nm f (L + 1) w) L g ((o, 0) :: c.1, c.2) := by
        show (match sgL (tok b n law j) L with | none => _ | some o => _) = _; rw [eS]
      have hsa : upW W = 30 ∨ upW W < thr L := by
        rcases hst with z | z
        · exact Or.inl z
        · right
          have : ∀ x : Fin 5, x.val ≠ 2 → thp x.val ≤ thr x.val := by decide +kernel
          have this : thp L ≤ thr L := this ⟨L, by omega⟩ hL2
          omega
      refine c262j (a := thr L) hn hb h eS (by rw [if_neg hL2]) (WOk_app hp hW) (fun c hc => ⟨by have := (hp c hc).1; omega, (hp c hc).2⟩) hsa (fun z => absurd z hL2) hR hl fun s now hnow f1 hR1 t1 => ?_
      have ho15 : WOk (o :: W) := fun c hc => by
        rcases List.mem_cons.mp hc with z | z
        · rw [z]; omega
        · exact hW c z
      rw [← hP] at hR1
      have hlP : P.length = pend.length + O.length := by rw [hP, pops_len]
      have hl' : pend.length + W.length + O.length ≤ j := by rw [List.length_append] at hl; exact hl
      refine ih (L + 1) w (o :: W) P u (j + 1) now s Q (by omega) hw (by omega) (by rw [dpW_o (by omega) (by omega)]; exact hdw) (Or.inr o2) ho15 (by rw [hnow]; split <;> omega) (fun z => by rw [hnow, if_pos (by omega)]) (fun z y => by rw [hnow] at y; split at y <;> omega) t1 hR1 (by show W.length + 1 + P.length ≤ j + 1; omega) hu (MkR_E hM f1) (fun e s' he f2 t2 => KE e s' (by rw [eJ, andT_er he]) (frE_tr f1 f2) t2) fun c p2 O2 s' hc hc1 hp2 hT2 f2 t2 hR2 hl2 => ?_
      obtain ⟨r1, r2, r3, r4, -⟩ := rLv_ok (law := law) hn13 hb hm f (L + 1) w _ c hc
      have r1 : u < c.2.1 := r1
      have eA : p2 ++ o :: W = (p2 ++ [o]) ++ W := by simp
      rw [eA] at hR2 hl2
      have hpo : PdOk L (p2 ++ [o]) := PdOk_app (PdOk_mono hp2 (thr_s hL).1) fun x hx => by
        rw [List.mem_singleton.mp hx]; exact ⟨by omega, o1⟩
      refine c262g hn hb hm ih hL hL2 hw hf hdw hst hW g ((o, 0) :: c.1) (p2 ++ [o]) O2 c.2.1 c.2.2 s' Q (by rw [pops_app, ← hc1]; rfl) hpo (TlI_app hT2) (by omega) r2 t2 hR2 hl2 (MkR_E hM (frE_tr f1 f2)) (fun e s'' he f3 t3 => KE e s'' (by rw [eJ, andT_ok hc]; exact he) (frE_tr (frE_tr f1 f2) f3) t3) fun c' p' O' s'' hc' h1 h2 h3 f3 t3 hR3 hl3 => KO c' p' O' s'' (by rw [eJ, andT_ok hc]; exact hc') h1 h2 h3 (frE_tr (frE_tr f1 f2) f3) t3 hR3 hl3
theorem p262 {mk : Nat} {nm : Nat → Nat} (hn : n ≤ 500) (hb : ∀ i, b i < 256) (hm : mk ≤ 6) : ∀ f, P262 Θ d b n law mk nm f
  | 0 => fun L w W P u j now σ Q hL hw hf hdw hst hW hnow hn0 hn1 h hR hl hu hM KE KO => by omega
  | f + 1 => fun L w W P u j now σ Q hL hw hf hdw hst hW hnow hn0 hn1 h hR hl hu hM KE KO => by
    have hn13 : n ≤ 1300 := by omega
    have ih : P262 Θ d b n law mk nm f := p262 hn hb hm f
    by_cases q5 : L = 5
    · subst q5
      have eU : rLv (tok b n law) mk nm (f + 1) 5 w (P, u, j) = (if 50 ≤ u then .error (flt 2 (tok b n law j)) else if (tok b n law j).1 = 3 ∧ (tok b n law j).2.2 = 40 then (if 6 < w then .error (flt 2 (tok b n law j)) else andT (rLv (tok b n law) mk nm f 0 (w + 1) (P, u + 1, j + 1)) fun c => andT (rG (tok b n law) 41 c.2.2) fun j' => .ok (c.1, c.2.1, j'))
        else andT (rUn (tok b n law) mk nm j) fun x => .ok (x :: P, u + 1, j + 1)) := rfl
      by_cases qp : (tok b n law j).1 = 3 ∧ (tok b n law j).2.2 = 40
      · rw [if_pos qp] at eU
        have hj := tok_lt (law := law) (b := b) hn13 (j := j) (by omega)
        refine c262o hnow h (c260p (d := d + 1) hnow hn13 hb h qp hR (by omega) hu (fun z s f1 t1 => ⟨_, rfl, c262x t1 (KE _ s ?_ (frE_T f1) t1)⟩) fun hu' hd' s f1 hR1 t1 => ⟨_, rfl, ?_⟩)
        · rw [eU]
          by_cases y : 50 ≤ u
          · rw [if_pos y]
          · rw [if_neg y, if_pos (by omega)]
        · rw [if_neg (by omega), if_neg (by omega)] at eU
          have hW1 : WOk (15 :: W) := fun c hc => by
            rcases List.mem_cons.mp hc with z | z
            · rw [z]; omega
            · exact hW c z
          refine ih 0 (w + 1) (15 :: W) P (u + 1) (j + 1) 0 s Q (by omega) (by omega) (by omega) (by show dpW W + (if 15 = 6 ∨ 15 = 15 then 1 else 0) = _; rw [if_pos (Or.inr rfl), hdw]) (Or.inl rfl) hW1 (Or.inl rfl) (fun _ => rfl) (fun z => by omega) t1 hR1 (by show W.length + 1 + P.length ≤ j + 1; omega) (by omega) (MkR_E hM f1) (fun e s' he f2 t2 => KE e s' (by rw [eU, andT_er he]) (frE_tr f1 f2) t2) fun c p2 O2 s' hc hc1 hp2 hT2 f2 t2 hR2 hl2 => ?_
          have hW2 := WOk_app hp2 hW1
          obtain ⟨r1, r2, r3, r4, -⟩ := rLv_ok (law := law) hn13 hb hm f 0 (w + 1) _ c hc
          have ho : opn (p2 ++ 15 :: W) = true := opn_iff.mpr (by simp)
          by_cases qc : (tok b n law c.2.2).1 = 3 ∧ (tok b n law c.2.2).2.2 = 41
          · have eG : rG (tok b n law) 41 c.2.2 = .ok (c.2.2 + 1) := if_pos qc
            refine c262s hn13 hb t2 (Or.inl (by omega)) hW2 hR2 (by omega) (c261c (d := d) hn13 hb t2 qc hW2 (fun x hx => by have := (hp2 x hx).1; omega) hR2 (by omega) fun s3 f3 hR3 t3 => ⟨_, rfl, ?_⟩)
            rw [← hc1] at hR3
            have hlc : c.1.length = p2.length + O2.length := by rw [hc1, pops_len]
            refine KO (c.1, c.2.1, c.2.2 + 1) [] c.1 s3 (by rw [eU, andT_ok hc, andT_ok eG]) rfl (fun x hx => by cases hx) ⟨fun l h1 h2 => by omega, fun h1 => by omega⟩ (frE_tr f1 (frE_tr f2 f3)) t3 hR3 ?_
            show W.length + c.1.length ≤ c.2.2 + 1
            rw [List.length_append] at hl2
            have hl2 : p2.length + (W.length + 1) + O2.length ≤ c.2.2 := hl2
            omega
          · have eG : rG (tok b n law) 41 c.2.2 = .error (flt 2 (tok b n law c.2.2)) := if_neg qc
            exact c262e hn hb t2 hT2 hW2 (fun z => absurd z qc) (Or.inr ho) hR2 (by omega) fun s3 f3 t3 => KE _ s3 (by rw [eU, andT_ok hc, andT_er eG]) (frE_tr f1 (frE_tr f2 f3)) t3
      · rw [if_neg qp] at eU
        have eU2 : rLv (tok b n law) mk nm (f + 1) 5 w (P, u, j) = andT (if 50 ≤ u then .error (flt 2 (tok b n law j)) else rUn (tok b n law) mk nm j) fun x => .ok (x :: P, u + 1, j + 1) := by
          rw [eU]
          by_cases y : 50 ≤ u
          · rw [if_pos y, if_pos y]; rfl
          · rw [if_neg y, if_neg y]
        refine c262o hnow h (c260u (d := d + 1) hnow hn13 hb h (fun z => hn1 (by omega) z) qp hR (fun x hx => by have := tok_lt (law := law) (b := b) hn13 (rUn_1 hx); omega) hu hM (fun e s he f1 t1 => ⟨_, rfl, c262x t1 (KE e s (by rw [eU2, andT_er he]) (frE_T f1) t1)⟩) fun x s hu' hx f1 hR1 t1 => ⟨_, rfl, ?_⟩)
        refine KO (x :: P, u + 1, j + 1) [] (x :: P) s (by rw [eU2, if_neg (by omega), andT_ok hx]) rfl (fun x hx => by cases hx) ⟨fun l h1 h2 => by omega, fun h1 => by omega⟩ f1 t1 hR1 ?_
        show W.length + (P.length + 1) ≤ j + 1
        omega
    · by_cases q2 : L = 2 ∧ (tok b n law j).1 = 1 ∧ (tok b n law j).2.2 = 7237492
      · obtain ⟨rfl, q⟩ := q2
        have hnow0 := hn0 (by omega)
        subst hnow0
        have e0 : rLv (tok b n law) mk nm (f + 1) 2 w (P, u, j) = (if 2 = 2 ∧ (tok b n law j).1 = 1 ∧ (tok b n law j).2.2 = 7237492 then (if 6 < w then .error (flt 2 (tok b n law j)) else andT (rLv (tok b n law) mk nm f 2 (w + 1) (P, u, j + 1)) fun c => .ok ((6, 0) :: c.1, c.2)) else andT (rLv (tok b n law) mk nm f (2 + 1) w (P, u, j)) fun c => rJn (tok b n law) (rLv (tok b n law) mk nm f (2 + 1) w) 2 1 c) := rfl
        rw [if_pos ⟨rfl, q⟩] at e0
        have hj := tok_lt (law := law) (b := b) hn13 (j := j) (by omega)
        refine c262o (Or.inl rfl) h (c260n (d := d + 1) hn13 hb h q hR (by omega) (fun z s f1 t1 => ⟨_, rfl, c262x t1 (KE _ s (by rw [e0, if_pos (by omega)]) (frE_T f1) t1)⟩) fun hd' s f1 hR1 t1 => ⟨_, rfl, ?_⟩)
        rw [if_neg (by omega)] at e0
        have hW1 : WOk (6 :: W) := fun c hc => by
          rcases List.mem_cons.mp hc with z | z
          · rw [z]; omega
          · exact hW c z
        refine ih 2 (w + 1) (6 :: W) P u (j + 1) 0 s Q (by omega) (by omega) (by omega) (by show dpW W + (if 6 = 6 ∨ 6 = 15 then 1 else 0) = _; rw [if_pos (Or.inl rfl), hdw]) (Or.inr (show rcd 6 < 23 by decide)) hW1 (Or.inl rfl) (fun _ => rfl) (fun z => by omega) t1 hR1 (by show W.length + 1 + P.length ≤ j + 1; omega) hu (MkR_E hM f1) (fun e s' he f2 t2 => KE e s' (by rw [e0, andT_er he]) (frE_tr f1 f2) t2) fun c p2 O2 s' hc hc1 hp2 hT2 f2 t2 hR2 hl2 => ?_
        have eA : p2 ++ 6 :: W = (p2 ++ [6]) ++ W := by simp
        rw [eA] at hR2 hl2
        refine KO ((6, 0) :: c.1, c.2) (p2 ++ [6]) O2 s' (by rw [e0, andT_ok hc]) (by rw [pops_app, ← hc1]; rfl) (PdOk_app hp2 fun x hx => by rw [List.mem_singleton.mp hx]; decide) (TlI_app hT2) (frE_tr f1 f2) t2 hR2 hl2
      · have hL4 : L ≤ 4 := by omega
        have eL : rLv (tok b n law) mk nm (f + 1) L w (P, u, j) = andT (rLv (tok b n law) mk nm f (L + 1) w (P, u, j)) (fun c => rJn (tok b n law) (rLv (tok b n law) mk nm f (L + 1) w) L (if L = 2 then 1 else 50) c) := by
          show (if L = 5 then _ else if L = 2 ∧ (tok b n law j).1 = 1 ∧ (tok b n law j).2.2 = 7237492 then _ else andT _ (fun c => rJn _ _ L (if L = 2 then 1 else 50) c)) = _
          rw [if_neg q5, if_neg q2]
        have hst1 : StW (L + 1) W := by
          rcases hst with z | z
          · exact Or.inl z
          · exact Or.inr (Nat.lt_of_lt_of_le z (thr_s hL4).2)
        refine ih (L + 1) w W P u j now σ Q (by omega) hw (by omega) hdw hst1 hW hnow (fun z => hn0 (by omega)) (fun z y => ?_) h hR hl hu hM (fun e s he f1 t1 => KE e s (by rw [eL, andT_er he]) f1 t1) fun c p2 O2 s hc hc1 hp2 hT2 f2 t2 hR2 hl2 => ?_
        · by_cases y2 : L = 2
          · exact fun x => q2 ⟨y2, x⟩
          · exact hn1 (by omega) y
        obtain ⟨r1, r2, r3, r4, -⟩ := rLv_ok (law := law) hn13 hb hm f (L + 1) w _ c hc
        have r1 : u < c.2.1 := r1
        by_cases y2 : L = 2
        · subst y2
          rw [if_pos rfl] at eL
          cases eS : sgL (tok b n law c.2.2) 2 with
          | none =>
            have eJ : rJn (tok b n law) (rLv (tok b n law) mk nm f (2 + 1) w) 2 1 c = .ok c := by
              show (match sgL (tok b n law c.2.2) 2 with | none => _ | some o => _) = _; rw [eS]
            exact KO c p2 O2 s (by rw [eL, andT_ok hc, eJ]) hc1 (PdOk_mono hp2 (by decide)) ⟨fun l h1 h2 h3 => hT2.1 l (by omega) h2 h3, fun _ h2 => absurd eS h2⟩ f2 t2 hR2 hl2
          | some o =>
            obtain ⟨o1, o2, o3, o4, o5, o6, o7, o8⟩ := lev_o eS
            have eJ : rJn (tok b n law) (rLv (tok b n law) mk nm f (2 + 1) w) 2 1 c = andT (rLv (tok b n law) mk nm f (2 + 1) w (c.1, c.2.1, c.2.2 + 1)) fun c' => .ok ((o, 0) :: c'.1, c'.2) := by
              show (match sgL (tok b n law c.2.2) 2 with | none => _ | some o => _) = _; rw [eS]; rfl
            have hu30 := upW_b hW
            have hstl : upW W = 30 ∨ upW W < 23 := hst
            refine c262j (a := 26) hn hb t2 eS rfl (WOk_app hp2 hW) (fun x hx => ⟨by have := (hp2 x hx).1; omega, (hp2 x hx).2⟩) (by omega) (fun _ z => ?_) hR2 hl2 fun s3 now' hnow' f3 hR3 t3 => ?_
            · unfold rkn at z
              rw [if_neg (by omega), if_neg (by omega)] at z
              omega
            have hnow1 : now' = 1 := hnow'
            subst hnow1
            have ho15 : WOk (o :: W) := fun x hx => by
              rcases List.mem_cons.mp hx with z | z
              · rw [z]; omega
              · exact hW x z
            rw [← hc1] at hR3
            have hlP : c.1.length = p2.length + O2.length := by rw [hc1, pops_len]
            have hl' : p2.length + W.length + O2.length ≤ c.2.2 := by rw [List.length_append] at hl2; exact hl2
            refine ih 3 w (o :: W) c.1 c.2.1 (c.2.2 + 1) 1 s3 Q (by omega) hw (by omega) (by rw [dpW_o (by omega) (by omega)]; exact hdw) (Or.inr o2) ho15 (Or.inr rfl) (fun z => by omega) (fun z y => by omega) t3 hR3 (by show W.length + 1 + c.1.length ≤ c.2.2 + 1; omega) r2 (MkR_E hM (frE_tr f2 f3)) (fun e s' he f4 t4 => KE e s' (by rw [eL, andT_ok hc, eJ, andT_er he]) (frE_tr f2 (frE_tr f3 f4)) t4) fun c' p3 O3 s' hc' hc1' hp3 hT3 f4 t4 hR4 hl4 => ?_
            have eA : p3 ++ o :: W = (p3 ++ [o]) ++ W := by simp
            rw [eA] at hR4 hl4
            refine KO ((o, 0) :: c'.1, c'.2) (p3 ++ [o]) O3 s' (by rw [eL, andT_ok hc, eJ, andT_ok hc']) (by rw [pops_app, ← hc1']; rfl) (PdOk_app (PdOk_mono hp3 (by decide)) fun x hx => by rw [List.mem_singleton.mp hx]; exact ⟨by omega, o1⟩) ⟨fun l h1 h2 h3 => hT3.1 l (by omega) h2 h3, fun _ _ => ⟨p3, o, [], rfl, fun x hx => ⟨by have := (hp3 x hx).1; omega, (hp3 x hx).2⟩, o5 rfl⟩⟩ (frE_tr f2 (frE_tr f3 f4)) t4 hR4 hl4
        · rw [if_neg y2] at eL
          exact c262g hn hb hm ih hL4 y2 hw (by omega) hdw hst hW 50 c.1 p2 O2 c.2.1 c.2.2 s Q hc1 (PdOk_mono hp2 (thr_s hL4).1) hT2 (by omega) r2 t2 hR2 hl2 (MkR_E hM f2) (fun e s' he f3 t3 => KE e s' (by rw [eL, andT_ok hc]; exact he) (frE_tr f2 f3) t3) fun c' p' O' s' hc' h1 h2 h3 f3 t3 hR3 hl3 => KO c' p' O' s' (by rw [eL, andT_ok hc]; exact hc') h1 h2 h3 (frE_tr f2 f3) t3 hR3 hl3
end rl3
