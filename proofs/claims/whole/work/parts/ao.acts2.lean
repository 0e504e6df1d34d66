/-! THE CALLS: undo, redo, give, count: the states, the class -/
def stU (s : St) : St := match s.D with | [] => s | a :: t => stQ s (bwA a s.B) s.lv t (a :: s.U)
def stR (s : St) : St := match s.U with | [] => s | a :: t => stQ s (fwA a s.B) s.lv (a :: s.D) t
def stA (s : St) (a : Ac) : St := stQ s (fwA a s.B) s.lv (psh s.D a) []
theorem ok_stU {s : St} (ok : OkS s) : OkS (stU s) := by
  obtain ⟨hl, hd, hu⟩ := ok.2.2.2.1
  unfold stU
  cases hD : s.D with
  | nil => exact ok
  | cons a t =>
    rw [hD] at hd hl
    obtain ⟨h1, h2⟩ := hd
    have hkB := ok.2.1.1
    obtain ⟨g1, g2⟩ := bk_back (lv := s.lv) h1 hkB.2.1.1 (fun c hc => (hkB.2.2.2.2.1 c (by have := hkB.2.1; omega)).2.2.1)
    exact ok_stQ ok (bw_ok h1 hkB ok.2.1.2.1) (bw_same a s.B) (by rw [List.length_cons] at hl ⊢; omega) h2 ⟨g1, by rw [g2]; exact hu⟩
theorem ok_stR {s : St} (ok : OkS s) : OkS (stR s) := by
  obtain ⟨hl, hd, hu⟩ := ok.2.2.2.1
  unfold stR
  cases hU : s.U with
  | nil => exact ok
  | cons a t =>
    rw [hU] at hu hl
    obtain ⟨h1, h2⟩ := hu
    have hkB := ok.2.1.1
    obtain ⟨g1, g2⟩ := bk_forw h1 (fun c hc => (hkB.2.2.2.2.1 c (by have := hkB.2.1; omega)).2.2.1)
    exact ok_stQ ok (fw_ok h1 hkB ok.2.1.2.1) (ap_same _ _ _ _) (by rw [List.length_cons] at hl ⊢; omega) ⟨g1, by rw [g2]; exact hd⟩ h2
theorem ok_stA {s : St} {a : Ac} (ok : OkS s) (hp : preA s.n0 s.lv a s.B) : OkS (stA s a) := by
  obtain ⟨hl, hd, hu⟩ := ok.2.2.2.1
  have hkB := ok.2.1.1
  obtain ⟨g1, g2⟩ := bk_forw hp (fun c hc => (hkB.2.2.2.2.1 c (by have := hkB.2.1; omega)).2.2.1)
  exact ok_stQ ok (fw_ok hp hkB ok.2.1.2.1) (ap_same _ _ _ _) (by have := psh_len (D := s.D) (a := a) (by omega); rw [List.length_nil]; omega) (psh_dn (by rw [g2]; exact hd) g1) True.intro
/-- give(i, g), count(m, yes) -/
noncomputable def giB (s : St) (x1 x2 : Int32) : Bool := dP (isN x1 (bN s.B)) && (dP (isN x2 241) && decide (¬ nI (bG s.B x1.toNatClampNeg) = x2))
noncomputable def stGi (s : St) (x1 x2 : Int32) : St := if giB s x1 x2 = true then stA s (2, x1.toNatClampNeg, bG s.B x1.toNatClampNeg, x2.toNatClampNeg) else s
noncomputable def coB (s : St) (x1 : Int32) (b : Bool) : Bool := dP (isN x1 (bM s.B)) && (decide (¬ bCt s.B x1.toNatClampNeg = b) && decide (¬ 0 ≤ agP s.B (upN (bCt s.B) x1.toNatClampNeg b)))
noncomputable def stCo (s : St) (x1 : Int32) (b : Bool) : St := if coB s x1 b = true then stA s (1, x1.toNatClampNeg, (if b = true then 0 else 1), (if b = true then 1 else 0)) else s
theorem pre_gi {s : St} {c v : Nat} (hc : c < bN s.B) (hv : v ≤ 240) : preA s.n0 s.lv (2, c, bG s.B c, v) s.B := Or.inr (Or.inr ⟨rfl, hc, hv, rfl⟩)
theorem pre_co {s : St} {m : Nat} {b : Bool} (hm : m < bM s.B) (hb : ¬ bCt s.B m = b) : preA s.n0 s.lv (1, m, (if b = true then 0 else 1), (if b = true then 1 else 0)) s.B := by
  refine Or.inr (Or.inl ⟨rfl, hm, ?_, ?_⟩)
  · cases b <;> rfl
  · cases b
    · have : bCt s.B m = true := by cases h : bCt s.B m; exact absurd h hb; rfl
      rw [this]; rfl
    · have : bCt s.B m = false := by cases h : bCt s.B m; rfl; exact absurd h hb
      rw [this]; rfl
theorem sX_flip {p : Nat → Bool} {m : Nat} {b : Bool} (hm : m < 16) (h : ¬ p m = b) : sX p ^^^ ((1 : Int32) <<< (nI m &&& 31)) = sX (upN p m b) := by
  rw [sX_1 hm]
  refine sX_ext fun k hk => ?_
  rw [bt_xor, bt_sX _ hk, bt_sX _ hk]
  by_cases q : k = m
  · rw [q, upN_at, decide_eq_true hm, decide_eq_true rfl]
    cases hp : p m <;> cases b <;> simp_all
  · rw [upN_ne q, decide_eq_false q]; simp
section acts2
variable {Θ : Th} {d : Nat} {σ : Mem} {Q : Po} {s : St}
theorem BkC_setN {r lv c : Nat} {B : Bk} {τ : Mem} (h : BkC r lv B τ) : BkC r lv (setN B c) (sI τ r 4 (nI c)) := by
  obtain ⟨b0, ⟨a1, a2, a3, a4⟩, ⟨b1, b2, b3, b4, b5, b6⟩, c1, c2, c3⟩ := h
  have e : ∀ x, x ≠ r → (sI τ r 4 (nI c)).1 x = τ.1 x := fun x hx => sI_ne hx
  unfold BkC rowI
  rw [e (r + 2) (by omega), e (r + 3) (by omega), e (r + 4) (by omega), e (r + 5) (by omega), e (r + 6) (by omega), e (r + 7) (by omega), e (r + 8) (by omega), e (r + 9) (by omega), sI_at, sI_of _ _ (by omega), sI_of _ _ (by omega), sI_of _ _ (by omega)]
  exact ⟨b0, ⟨a1, a2, a3, a4⟩, ⟨rfl, b2, b3, b4, b5, b6⟩, c1, c2, c3⟩
theorem act_c {r o : Nat} {a : Ac} (hB : RB s r o σ) (ok : OkS s) (hp : preA s.n0 s.lv a s.B) (K : ∀ σ', CC σ σ' → OkS (stA s a) → RC (stA s a) σ' → Q none σ') : Cm Θ (d + 3) 167 [.ref 0, .int (nI a.1), .int (nI a.2.1), .int (nI a.2.2.1), .int (nI a.2.2.2)] σ Q := by
  obtain ⟨k, c, v, w⟩ := a
  have hkB := ok.2.1.1
  have hm := bm6 hkB
  have h16 := bk16 ok
  refine k167 (d := d) (k := k) (c := c) (v := v) (w := w) (B' := s.B) (lv := s.lv) (U := []) hB (rB_r hB).1 hB.2.2.2.2.1 (by have := ok.2.2.2.1.1; omega) ?_ ?_ hB.2.2.1.1 hB.2.2.1.2 fun σ' cc hC => K σ' cc (ok_stA ok hp) hC
  · rcases hp with ⟨h1, _⟩ | ⟨h1, _⟩ | ⟨h1, _⟩ <;> (have h1 : k = _ := h1; omega)
  · refine ⟨fun z => ?_, fun z => ?_⟩
    · rcases hp with ⟨h1, _⟩ | ⟨h1, h2, h3, _⟩ | ⟨h1, _⟩
      · have h1 : k = 0 := h1; omega
      · have h2 : c < bM s.B := h2
        have h3 : v + w = 1 := h3
        exact ⟨by omega, by omega⟩
      · have h1 : k = 2 := h1; omega
    · rcases hp with ⟨h1, _⟩ | ⟨h1, _⟩ | ⟨h1, h2, _⟩
      · have h1 : k = 0 := h1; omega
      · have h1 : k = 1 := h1; omega
      · have h2 : c < bN s.B := h2; omega
theorem k149 {x1 x2 : Int32} (h : RC s σ) (ok : OkS s) (K : ∀ σ', CC σ σ' → OkS (stGi s x1 x2) → RC (stGi s x1 x2) σ' → Q (some (.int (b01 (giB s x1 x2)))) σ') : Cm Θ (d + 4) 149 [.ref 0, .int x1, .int x2] σ Q := by
  obtain ⟨r, o, hB, kn⟩ := id h
  obtain ⟨r1, r2, r3, r4⟩ := rB_r hB
  have h16 := bk16 ok
  have hkB := ok.2.1.1
  have hlv : bN s.B ≤ s.lv := by have := hkB.2.1; omega
  have hB' := hB.2.2.1.1
  have hn := hB'.2.2.1.1
  unfold stGi at K
  have bad : giB s x1 x2 = false → Q (some (.int 0)) σ := fun q => by rw [q] at K; exact K σ cC_rfl ok h
  refine K149 (B149_0 ?_)
  rw [r1]
  refine ⟨r2, r3, c12' r3 hn (by omega) ⟨_, rfl, fun z => bad (by rw [b01_0] at z; unfold giB; rw [z]; rfl), fun z => c157 ⟨_, rfl, fun y => bad (by rw [b01_0] at y; unfold giB; rw [y]; simp), fun y => ?_⟩⟩⟩
  rw [b01_n] at z y
  obtain ⟨c, hc, e1⟩ := isN_ex (dP_iff.mp z) (by omega)
  obtain ⟨v, hv, e2⟩ := isN_ex (dP_iff.mp y) (by omega)
  have ev : giB s x1 x2 = decide (¬ nI (bG s.B c) = x2) := by unfold giB; rw [z, y, e1, nI_clamp (by omega)]; rfl
  rw [r1, e1, nI_clamp (by omega), hB'.2.2.1.2.2.2.1 c (by omega)]
  refine ⟨r2, r3, vp_in_nI (by omega) (by decide), fun w => ⟨r2, r3, vp_in_nI (by omega) (by decide), ?_⟩, fun w => bad (by rw [ev]; exact decide_eq_false (fun q => q w))⟩
  have et : giB s x1 x2 = true := by rw [ev]; exact decide_eq_true w
  rw [if_pos et, et, e1, e2, nI_clamp (by omega), nI_clamp (by omega)] at K
  rw [e2]
  exact act_c (d := d) (a := (2, c, bG s.B c, v)) hB ok (pre_gi hc (by omega)) fun σ' cc ok' hC => ⟨rfl, K σ' cc ok' hC⟩
theorem k148 {x1 : Int32} {b : Bool} (h : RC s σ) (ok : OkS s) (K : ∀ σ', CC σ σ' → OkS (stCo s x1 b) → RC (stCo s x1 b) σ' → Q (some (.int (b01 (coB s x1 b)))) σ') : Cm Θ (d + 4) 148 [.ref 0, .int x1, .int (b01 b)] σ Q := by
  obtain ⟨r, o, hB, kn⟩ := id h
  obtain ⟨r1, r2, r3, r4⟩ := rB_r hB
  have hkB := ok.2.1.1
  have hm := bm6 hkB
  have hB' := hB.2.2.1.1
  have hn := hB'.2.1.1
  unfold stCo at K
  have bad : coB s x1 b = false → Q (some (.int 0)) σ := fun q => by rw [q] at K; exact K σ cC_rfl ok h
  refine K148 (B148_0 ?_)
  rw [r1]
  refine ⟨r2, r3, c11' r3 hn (by omega) ⟨_, rfl, fun z => bad (by rw [b01_0] at z; unfold coB; rw [z]; rfl), fun z => ?_⟩⟩
  rw [b01_n] at z
  obtain ⟨m, hm', e1⟩ := isN_ex (dP_iff.mp z) (by omega)
  rw [r1, e1]
  refine ⟨r2, r3, ro (c14 r3 (by omega)) ?_⟩
  have ct : bt (σ.1 r 3) m = bCt s.B m := by
    rw [hB'.2.1.2.2.2, bt_sX _ (show m < 32 by omega), decide_eq_true (show m < 16 by omega), Bool.true_and]
  have bb : ∀ x y : Bool, b01 x = b01 y ↔ x = y := by decide
  have ev : coB s x1 b = (decide (¬ bCt s.B m = b) && decide (¬ 0 ≤ agP s.B (upN (bCt s.B) m b))) := by unfold coB; rw [z, e1, nI_clamp (by omega)]; rfl
  rw [ct, bb]
  try dsimp only
  rw [r1, hB'.2.1.2.2.2]
  refine ⟨fun w => ⟨r2, r3, r2, r3, ?_⟩, fun w => bad (by rw [ev, decide_eq_false (fun q => q w)]; rfl)⟩
  rw [sX_flip (by omega) w]
  refine (c76 (d := d + 1) (Or.inl rfl) hB' hkB).mono fun s1 ⟨f1, o1⟩ => ?_
  have hB1 := BkC_f2 hB' f1 fun x x1 x2 z => by simp at z; omega
  rw [(f1 0 (by decide)).2.2, r1]
  refine ⟨r2, r3, Cm.mono (c77 (d := d + 2) o1 hB1 hkB) fun v' s2 ⟨v, e, f2, o2, ev2⟩ => ⟨v, e, ?_⟩⟩
  have f12 : Fr [7, 8] σ s2 := f1.tr f2
  have hB2 := RB_fr hB f12 (f12 0 (by decide)).2.2 fun x hx => by simp at hx; omega
  have kn2 : Kn s.B s2 := Kn_fr kn f12 (by rw [(f12 0 (by decide)).1]; exact ⟨rfl, rfl⟩) (by rw [(f12 110 (by decide)).1]; exact ⟨rfl, rfl, rfl⟩) fun x hx => by simp at hx; omega
  have cc2 : CC σ s2 := cC_fr f12 fun x hx => by simp at hx; omega
  have ev2 : v = iI (agP s.B (upN (bCt s.B) m b)) := ev2
  have ab := fsT_b (f := fun t => oV s.B (upN (bCt s.B) m b) t (bU s.B t) (bA s.B t)) (bT s.B)
  have ab : -1 ≤ agP s.B (upN (bCt s.B) m b) ∧ agP s.B (upN (bCt s.B) m b) < bT s.B := ab
  have ht := hkB.2.2.2.2.2.1
  obtain ⟨n1, n2⟩ := iI_neg1 ab.1 (show agP s.B (upN (bCt s.B) m b) < 1000 by omega)
  rw [ev2]
  try dsimp only
  rw [n1]
  refine ⟨fun y => ?_, fun y => ?_⟩
  · have et : coB s x1 b = true := by rw [ev, decide_eq_true w, decide_eq_true (show ¬ 0 ≤ agP s.B (upN (bCt s.B) m b) by omega)]; rfl
    rw [if_pos et, et, e1, nI_clamp (by omega)] at K
    have pre := pre_co (s := s) (m := m) (b := b) hm' w
    cases b
    · exact ⟨fun _ => ⟨fun _ => act_c (d := d) (a := (1, m, 1, 0)) hB2 ok pre fun σ' cc ok' hC => ⟨rfl, K σ' (cC_tr cc2 cc) ok' hC⟩, fun q => absurd rfl q⟩, fun q => absurd rfl q⟩
    · exact ⟨fun q => absurd q (by decide), fun _ => ⟨fun q => absurd q (by decide), fun _ => act_c (d := d) (a := (1, m, 0, 1)) hB2 ok pre fun σ' cc ok' hC => ⟨rfl, K σ' (cC_tr cc2 cc) ok' hC⟩⟩⟩
  · have ef : coB s x1 b = false := by rw [ev, decide_eq_false (p := ¬ 0 ≤ agP s.B (upN (bCt s.B) m b)) (by omega), Bool.and_false]
    rw [ef] at K
    exact K s2 cc2 ok ⟨r, o, hB2, kn2⟩
theorem k3 {r o : Nat} (hB : RB s r o σ) (kn : Kn s.B σ) (ok : OkS s) (K0 : s.D = [] → Q (some (.int 0)) σ) (K1 : ∀ a t σ', s.D = a :: t → CC σ σ' → RB (stQ s (bwA a s.B) s.lv t (a :: s.U)) r o σ' → Q (some (.int 1)) σ') : Cm Θ (d + 1) 3 [.ref 78, .ref r] σ Q := by
  have hB' := hB.2.2.1.1
  have r4 := hB'.1
  have r3 := bk_s r4
  have hkB := ok.2.1.1
  have hm := bm6 hkB
  have h16 := bk16 ok
  obtain ⟨hl, hd, hu⟩ := ok.2.2.2.1
  have ac := hB.2.2.2.2.1
  refine K3 (B3_0 r3 ?_)
  cases hD : s.D with
  | nil =>
    rw [hD] at ac
    have h0 : σ.1 78 0 = 0 := ac.1.1
    rw [h0]
    exact ⟨fun q => absurd rfl q, fun _ => K0 hD⟩
  | cons a t =>
    rw [hD] at ac hl hd
    rw [List.length_cons] at hl
    obtain ⟨⟨h0, h1⟩, ⟨g, ht⟩, hu'⟩ := ac
    rw [List.length_cons] at h0 h1
    have e1 : nI (t.length + 1) - 1 = nI t.length := by rw [show (1 : Int32) = nI 1 from rfl, pk_sub (by omega), Nat.add_sub_cancel]
    have nz : ¬ nI (t.length + 1) = 0 := fun q => by
      have := congrArg Int32.toInt q
      rw [nI_int (by omega)] at this
      have e : (0 : Int32).toInt = 0 := by decide
      omega
    obtain ⟨k, c, v, w⟩ := a
    have ha : aftA s.n0 (k, c, v, w) s.B := hd.1
    have vt : vp_in (nI t.length) 60 := vp_in_nI (by omega) (by decide)
    have x : ∀ l i, l ≠ 78 → (sI σ 78 0 (nI t.length)).1 l i = σ.1 l i := fun l i hl => sI_of _ _ (by omega)
    rw [h0, e1, sI_at, nI_clamp (by omega), x 79 _ (by decide), x 80 _ (by decide), x 81 _ (by decide), g.1, g.2.1, g.2.2.1]
    have hrow : rwU t.length ((k, c, v, w) :: s.U) σ := ⟨g, hu'⟩
    have fin : ∀ σ' ls, Fr ls (sI σ 78 0 (nI t.length)) σ' → (∀ x, x ∈ ls → x = r ∨ x = r + 5) → BkC r s.lv (bwA (k, c, v, w) s.B) σ' → Q (some (.int 1)) σ' := fun σ' ls f hls bk => by
      have F : Fr (78 :: ls) σ σ' := Fr.tr (Fr.rfl.I (by simp)) (f.mono fun x hx => List.mem_cons_of_mem _ hx)
      have hl' : ∀ x, x ∈ (78 :: ls) → x = 78 ∨ x = r ∨ x = r + 5 := fun x hx => by
        rcases List.mem_cons.mp hx with q | q
        · exact Or.inl q
        · exact Or.inr (hls x q)
      have nw : NwC r (bwA (k, c, v, w) s.B) s.nw σ' := fun m hm' => by
        rw [(bw_same _ _).1] at hm'
        rw [(F (r + 7) (fun q => by have := hl' _ q; omega)).1]; exact hB.2.2.1.2 m hm'
      have acn : AcC t ((k, c, v, w) :: s.U) σ' := by
        have e : ∀ x, 79 ≤ x → x ≤ 82 → σ'.1 x = σ.1 x := fun x x1 x2 => (F x (fun q => by have := hl' x q; omega)).1
        have e78 : σ'.1 78 = (sI σ 78 0 (nI t.length)).1 78 := (f 78 (fun q => by have := hls 78 q; omega)).1
        refine ⟨⟨by rw [e78]; exact sI_at _ _ _ _, ?_⟩, rwD_eq (e _ (by omega) (by omega)) (e _ (by omega) (by omega)) (e _ (by omega) (by omega)) (e _ (by omega) (by omega)) ht, rwU_eq (e _ (by omega) (by omega)) (e _ (by omega) (by omega)) (e _ (by omega) (by omega)) (e _ (by omega) (by omega)) hrow⟩
        rw [e78, sI_of _ _ (by omega), h1, List.length_cons]
        congr 1; omega
      exact K1 _ t σ' hD (cC_fr F fun x hx => by have := hl' x hx; omega) (RB_set hB F (F 0 (fun q => by have := hl' 0 q; omega)).2.2 (fun x hx => by have := hl' x hx; omega) bk nw acn)
    have bkτ : BkC r s.lv s.B (sI σ 78 0 (nI t.length)) := BkC_f2 hB' (Fr.rfl.I (ls := [78]) (by simp)) fun x x1 x2 q => by simp at q; omega
    refine ⟨fun _ => ⟨vt, fun z => ⟨vt, vt, vt, ?_⟩, fun z => ⟨vt, ?_⟩⟩, fun q => absurd q nz⟩
    · have hk0 : k ≠ 0 := fun q => z (by rw [q]; rfl)
      have e : bwA (k, c, v, w) s.B = apA k c v s.B := by
        show (if k = 0 then _ else _) = (if k = 0 then _ else _)
        rw [if_neg hk0, if_neg hk0]
      refine c5 (d := d) bkτ ?_ ?_ fun σ' f' bk' => ⟨rfl, fin σ' [r, r + 5] f' (fun x hx => by simp at hx; omega) (by rw [e]; exact bk')⟩
      · rcases ha with ⟨h1, _⟩ | ⟨h1, _⟩ | ⟨h1, _⟩ <;> (have h1 : k = _ := h1; omega)
      · refine ⟨fun z => ?_, fun z => ?_⟩
        · rcases ha with ⟨h1, _⟩ | ⟨h1, h2, h3, _⟩ | ⟨h1, _⟩
          · have h1 : k = 0 := h1; omega
          · have h2 : c < bM s.B := h2
            have h3 : v + w = 1 := h3
            exact ⟨by omega, by omega⟩
          · have h1 : k = 2 := h1; omega
        · rcases ha with ⟨h1, _⟩ | ⟨h1, _⟩ | ⟨h1, h2, _⟩
          · have h1 : k = 0 := h1; omega
          · have h1 : k = 1 := h1; omega
          · have h2 : c < bN s.B := h2; omega
    · have hk0 : k = 0 := by
        have := congrArg Int32.toInt z
        have e : (0 : Int32).toInt = 0 := by decide
        rcases ha with ⟨h1, _⟩ | ⟨h1, _⟩ | ⟨h1, _⟩
        · exact h1
        · have h1 : k = 1 := h1; rw [h1, nI_int (by omega)] at this; omega
        · have h1 : k = 2 := h1; rw [h1, nI_int (by omega)] at this; omega
      refine fin _ [r] (Fr.rfl.I (by simp)) (fun x hx => by simp at hx; omega) ?_
      rw [hk0]
      show BkC r s.lv (setN s.B c) _
      exact BkC_setN bkτ
theorem k4 {r o : Nat} (hB : RB s r o σ) (kn : Kn s.B σ) (ok : OkS s) (K0 : s.U = [] → Q (some (.int 0)) σ) (K1 : ∀ a t σ', s.U = a :: t → CC σ σ' → RB (stQ s (fwA a s.B) s.lv (a :: s.D) t) r o σ' → Q (some (.int 1)) σ') : Cm Θ (d + 1) 4 [.ref 78, .ref r] σ Q := by
  have hB' := hB.2.2.1.1
  have r4 := hB'.1
  have r3 := bk_s r4
  have hkB := ok.2.1.1
  have hm := bm6 hkB
  have h16 := bk16 ok
  obtain ⟨hl, hd, hu⟩ := ok.2.2.2.1
  have ac := hB.2.2.2.2.1
  obtain ⟨⟨h0, h1⟩, hdr, hur⟩ := ac
  have hq : nI s.D.length = nI (s.D.length + s.U.length) ↔ s.U.length = 0 := by rw [nI_eq (by omega) (by omega)]; omega
  refine K4 (B4_0 r3 ?_)
  rw [h0, h1, hq]
  refine ⟨fun z => ?_, fun z => K0 (List.eq_nil_of_length_eq_zero z)⟩
  cases hU : s.U with
  | nil => exact absurd (by rw [hU]; rfl) z
  | cons a t =>
    rw [hU] at hur hu hl h1
    rw [List.length_cons] at hl h1
    obtain ⟨g, hu'⟩ := hur
    obtain ⟨k, c, v, w⟩ := a
    have ha : preA s.n0 s.lv (k, c, v, w) s.B := hu.1
    have vt : vp_in (nI s.D.length) 60 := vp_in_nI (by omega) (by decide)
    rw [nI_clamp (by omega), g.1, g.2.1, g.2.2.2]
    refine ⟨vt, vt, vt, c5 (d := d) hB' ?_ ?_ fun σ' f' bk' => ⟨rfl, ?_⟩⟩
    · rcases ha with ⟨h1, _⟩ | ⟨h1, _⟩ | ⟨h1, _⟩ <;> (have h1 : k = _ := h1; omega)
    · refine ⟨fun z => ?_, fun z => ?_⟩
      · rcases ha with ⟨h1, _⟩ | ⟨h1, h2, h3, _⟩ | ⟨h1, _⟩
        · have h1 : k = 0 := h1; omega
        · have h2 : c < bM s.B := h2
          have h3 : v + w = 1 := h3
          exact ⟨by omega, by omega⟩
        · have h1 : k = 2 := h1; omega
      · rcases ha with ⟨h1, _⟩ | ⟨h1, _⟩ | ⟨h1, h2, _⟩
        · have h1 : k = 0 := h1; omega
        · have h1 : k = 1 := h1; omega
        · have h2 : c < bN s.B := h2; omega
    · have e78 : σ'.1 78 = σ.1 78 := (f' 78 (by simp; omega)).1
      try dsimp only
      rw [e78, h0, nI_1]
      have F : Fr [r, r + 5, 78] σ (sI σ' 78 0 (nI (s.D.length + 1))) := (f'.mono (by intro x hx; simp at hx; simp; omega)).I (by simp)
      have fz : Fr [78] σ' (sI σ' 78 0 (nI (s.D.length + 1))) := Fr.rfl.I (by simp)
      have e : ∀ x, 79 ≤ x → x ≤ 82 → (sI σ' 78 0 (nI (s.D.length + 1))).1 x = σ.1 x := fun x x1 x2 => (F x (fun q => by simp at q; omega)).1
      refine K1 _ t _ hU (cC_fr F fun x hx => by simp at hx; omega) (RB_set hB F (F 0 (by simp; omega)).2.2 (fun x hx => by simp at hx; omega) (BkC_f2 bk' fz fun x x1 x2 q => by simp at q; omega) (fun m hm' => ?_) ⟨⟨sI_at _ _ _ _, ?_⟩, rwD_eq (e _ (by omega) (by omega)) (e _ (by omega) (by omega)) (e _ (by omega) (by omega)) (e _ (by omega) (by omega)) ⟨g, hdr⟩, rwU_eq (e _ (by omega) (by omega)) (e _ (by omega) (by omega)) (e _ (by omega) (by omega)) (e _ (by omega) (by omega)) hu'⟩)
      · have hm' : m < bM s.B := by rw [← (ap_same k c w s.B).1]; exact hm'
        rw [(F (r + 7) (fun q => by simp at q; omega)).1]; exact hB.2.2.1.2 m hm'
      · rw [sI_of _ _ (by omega), e78, h1, List.length_cons]
        congr 1; omega
theorem sI_self {a i : Nat} : sI σ a i (σ.1 a i) = σ := by
  have h : (sI σ a i (σ.1 a i)).1 = σ.1 := by
    funext x y
    by_cases q : x = a ∧ y = i
    · rw [q.1, q.2, sI_at]
    · exact sI_of _ _ (by omega)
  exact Prod.ext h rfl
noncomputable def unB (s : St) : Bool := !s.D.isEmpty
noncomputable def reB (s : St) : Bool := !s.U.isEmpty
theorem RB_0 {r o : Nat} {s : St} (h : RB s r o σ) : CC σ (sI σ 0 17 0) ∧ RC s (sI σ 0 17 0) := by
  have fr : Fr [0] σ (sI σ 0 17 0) := Fr.rfl.I (by simp)
  exact ⟨cC_fr fr fun x hx => by simp at hx; omega, r, o, RB_fr h fr rfl (fun x hx => by simp at hx; omega), Kn_0 (sI_at _ _ _ _)⟩
theorem k150 (h : RC s σ) (ok : OkS s) (K : ∀ σ', CC σ σ' → OkS (stU s) → RC (stU s) σ' → Q (some (.int (b01 (unB s)))) σ') : Cm Θ (d + 2) 150 [.ref 0] σ Q := by
  obtain ⟨r, o, hB, kn⟩ := id h
  obtain ⟨r1, r2, r3, r4⟩ := rB_r hB
  have ok' := ok_stU ok
  refine K150 (B150_0 ?_)
  rw [r1]
  refine ⟨r2, r3, k3 (d := d) hB kn ok (fun hD => ⟨_, rfl, fun _ => ⟨Or.inl rfl, ?_⟩, fun q => absurd rfl q⟩) fun a t s1 hD cc hB1 => ⟨_, rfl, fun q => absurd q (by decide), fun _ => ⟨Or.inr rfl, ?_⟩⟩⟩
  · have e1 : stU s = s := by unfold stU; rw [hD]
    have e2 : unB s = false := by unfold unB; rw [hD]; rfl
    rw [e1, e2] at K
    rw [sI_self]; exact K σ cC_rfl ok h
  · have e1 : stU s = stQ s (bwA a s.B) s.lv t (a :: s.U) := by unfold stU; rw [hD]
    have e2 : unB s = true := by unfold unB; rw [hD]; rfl
    rw [e1] at ok'
    rw [e1, e2] at K
    obtain ⟨c2, hC⟩ := RB_0 hB1
    exact K _ (cC_tr cc c2) ok' hC
theorem k151 (h : RC s σ) (ok : OkS s) (K : ∀ σ', CC σ σ' → OkS (stR s) → RC (stR s) σ' → Q (some (.int (b01 (reB s)))) σ') : Cm Θ (d + 2) 151 [.ref 0] σ Q := by
  obtain ⟨r, o, hB, kn⟩ := id h
  obtain ⟨r1, r2, r3, r4⟩ := rB_r hB
  have ok' := ok_stR ok
  refine K151 (B151_0 ?_)
  rw [r1]
  refine ⟨r2, r3, k4 (d := d) hB kn ok (fun hD => ⟨_, rfl, fun _ => ⟨Or.inl rfl, ?_⟩, fun q => absurd rfl q⟩) fun a t s1 hD cc hB1 => ⟨_, rfl, fun q => absurd q (by decide), fun _ => ⟨Or.inr rfl, ?_⟩⟩⟩
  · have e1 : stR s = s := by unfold stR; rw [hD]
    have e2 : reB s = false := by unfold reB; rw [hD]; rfl
    rw [e1, e2] at K
    rw [sI_self]; exact K σ cC_rfl ok h
  · have e1 : stR s = stQ s (fwA a s.B) s.lv (a :: s.D) t := by unfold stR; rw [hD]
    have e2 : reB s = true := by unfold reB; rw [hD]; rfl
    rw [e1] at ok'
    rw [e1, e2] at K
    obtain ⟨c2, hC⟩ := RB_0 hB1
    exact K _ (cC_tr cc c2) ok' hC
end acts2
