/-! CONTRACTS: what the class knows and reckons again -/
theorem kbit {k : Nat} (h : k < 32) : (nI k &&& 1 = 0 ↔ k.testBit 0 = false) ∧ (nI k &&& 2 = 0 ↔ k.testBit 1 = false) ∧ (nI k &&& 4 = 0 ↔ k.testBit 2 = false) ∧ (nI k &&& 8 = 0 ↔ k.testBit 3 = false) ∧ (nI k &&& 16 = 0 ↔ k.testBit 4 = false) := by
  have : ∀ x : Fin 32, (nI x.val &&& 1 = 0 ↔ x.val.testBit 0 = false) ∧ (nI x.val &&& 2 = 0 ↔ x.val.testBit 1 = false) ∧ (nI x.val &&& 4 = 0 ↔ x.val.testBit 2 = false) ∧ (nI x.val &&& 8 = 0 ↔ x.val.testBit 3 = false) ∧ (nI x.val &&& 16 = 0 ↔ x.val.testBit 4 = false) := by decide +kernel
  exact this ⟨k, h⟩
theorem kor {k b : Nat} (h : k < 32) (hb : b < 5) : nI k ||| nI (2 ^ b) = nI (k ||| 2 ^ b) ∧ k ||| 2 ^ b < 32 ∧ ∀ i, i < 5 → (k ||| 2 ^ b).testBit i = (k.testBit i || decide (i = b)) := by
  have : ∀ x : Fin 32, ∀ y : Fin 5, nI x.val ||| nI (2 ^ y.val) = nI (x.val ||| 2 ^ y.val) ∧ x.val ||| 2 ^ y.val < 32 ∧ ∀ z : Fin 5, (x.val ||| 2 ^ y.val).testBit z.val = (x.val.testBit z.val || decide (z.val = y.val)) := by decide +kernel
  obtain ⟨h1, h2, h3⟩ := this ⟨k, h⟩ ⟨b, hb⟩
  exact ⟨h1, h2, fun i hi => h3 ⟨i, hi⟩⟩
theorem Kn_set {B : Bk} {σ : Mem} {b k : Nat} (hb : b < 5) (hk : k < 32) (e : σ.1 0 17 = nI k) (f0 : k.testBit 0 = true ∨ b = 0 → OrC 83 (dO B) σ) (f1 : k.testBit 1 = true ∨ b = 1 → KSq B σ) (f2 : k.testBit 2 = true ∨ b = 2 → KGp B σ) (f3 : k.testBit 3 = true ∨ b = 3 → KAg B σ) (f4 : k.testBit 4 = true ∨ b = 4 → KBs B σ) : Kn B (sI σ 0 17 (σ.1 0 17 ||| nI (2 ^ b))) := by
  obtain ⟨o1, o2, o3⟩ := kor hk hb
  have fr : Fr [0] σ (sI σ 0 17 (σ.1 0 17 ||| nI (2 ^ b))) := Fr.rfl.I (by simp)
  have tb : ∀ i, i < 5 → (k ||| 2 ^ b).testBit i = true → k.testBit i = true ∨ b = i := fun i hi q => by
    rw [o3 i hi, Bool.or_eq_true, decide_eq_true_eq] at q
    rcases q with q | q
    · exact Or.inl q
    · exact Or.inr q.symm
  refine ⟨k ||| 2 ^ b, o2, by rw [sI_at, e, o1], fun q => OrC_f2 (f0 (tb 0 (by omega) q)) fr ⟨by decide, by decide⟩, fun q => SqC_f2 (f1 (tb 1 (by omega) q)) fr (fun x x1 x2 z => by simp at z; omega), fun q => ?_, fun q => ?_, fun q => ?_⟩
  · obtain ⟨g, g1, g2, g3⟩ := f2 (tb 2 (by omega) q)
    refine ⟨g, g1, ?_, ?_⟩
    · rw [sI_ne (by decide), sI_ne (by decide)]; exact g2
    · rw [sI_ne (by decide)]; exact g3
  · obtain ⟨x, y, z, g1, g2, g3, g4⟩ := f3 (tb 3 (by omega) q)
    refine ⟨x, y, z, g1, ?_, g3, g4⟩
    rw [sI_ne (by decide)]; exact g2
  · obtain ⟨x, y, g1, g2⟩ := f4 (tb 4 (by omega) q)
    exact ⟨x, y, g1, by rw [sI_of _ _ (by omega)]; exact g2⟩
theorem dOk (B : Bk) (p : Nat → Bool) (t : Nat) : DOk (bN B) (oV B p t) := ⟨fun a ha => oV_rf ha, fun a b c h h' => oV_tr h h', fun a b h => ⟨(oV_iff.mp h).1, (oV_iff.mp h).2.1⟩⟩
theorem al_lt {B : Bk} {c : Nat} (h : Al B c = true) : c < bN B := of_decide_eq_true h
theorem Fit_of {r l o lv : Nat} {B : Bk} {D : Nat → Nat → Bool} {σ : Mem} (hB : BkC r lv B σ) (hk : BkOk lv B) (hD : OrC o D σ) (hl : l = o + 2) : Fit r l B D σ := by
  obtain ⟨h1, -, ⟨b1, b2, b3, b4, b5, b6⟩, -⟩ := hB
  obtain ⟨k1, ⟨k2, k3⟩, k4, k5, k6, -⟩ := hk
  have ho := hD.1
  refine ⟨⟨h1, by omega⟩, ⟨b1, by omega⟩, fun c hc => ?_, fun c hc => by rw [hl]; exact (hD.2 c hc).2⟩
  have := k6 c (by omega)
  exact ⟨⟨b4 c (by omega), this.2.2.1⟩, b5 c (by omega), this.2.2.2.1, this.2.2.2.2.1⟩
section kno
variable {Θ : Th} {d : Nat} {σ : Mem} {Q : Po} {s : St} {r o : Nat}
theorem rB_r (h : RB s r o σ) : σ.2.2 0 2 = r ∧ r ≠ 0 ∧ (shq r).1 = 1 ∧ (r = 12 ∨ r = 22) := by
  have h1 := h.2.2.1.1.1
  exact ⟨h.1.2.1, by omega, bk_s h1, h1⟩
theorem bk16 (ok : OkS s) : bN s.B ≤ 16 := by have := ok.2.1.1.2.1; omega
theorem k160 (h : RB s r o σ) (hk : Kn s.B σ) (ok : OkS s) (K : ∀ σ', Fr [0, 84, 85] σ σ' → σ'.2.2 0 = σ.2.2 0 → σ'.1 0 16 = σ.1 0 16 → Kn s.B σ' → OrC 83 (dO s.B) σ' → Q (some (.ref 83)) σ') : Cm Θ (d + 3) 160 [.ref 0] σ Q := by
  obtain ⟨r1, r2, r3, r4⟩ := rB_r h
  obtain ⟨k, k1, k2, k3, k4, k5, k6, k7⟩ := id hk
  have hB := h.2.2.1.1
  have hkB := ok.2.1.1
  refine K160 (B160_0 ?_)
  rw [k2, (kbit k1).1, r1]
  refine ⟨fun q => K σ Fr.rfl rfl rfl hk (k3 (by simpa using q)), fun q => ⟨r2, r3, r2, r3, ?_⟩⟩
  rw [hB.2.1.2.2.2]
  refine (c76 (d := d) (p := bCt s.B) (Or.inr rfl) hB hkB).mono fun s1 ⟨f1, o1⟩ => ?_
  have hB1 := BkC_f2 hB f1 fun x x1 x2 z => by simp at z; omega
  rw [(f1 0 (by decide)).2.2, r1]
  refine ⟨r2, r3, (c77 (d := d + 1) o1 hB1 hkB).mono fun v s2 ⟨f2, o2, _⟩ => ?_⟩
  have f12 : Fr [84, 85] σ s2 := f1.tr f2
  have e17 : s2.1 0 17 = nI k := by rw [(f12 0 (by decide)).1]; exact k2
  have kn := Kn_set (B := s.B) (σ := s2) (b := 0) (by omega) k1 e17 (fun _ => o2) (fun z => SqC_f2 (k4 (z.resolve_right (by omega))) f12 fun x x1 x2 z => by simp at z; omega) (fun z => ?_) (fun z => ?_) (fun z => ?_)
  · exact K _ ((f12.mono (by intro x hx; simp at hx; simp; omega)).I (by simp)) (by rw [sI_R, (f12 0 (by decide)).2.2]) (by rw [sI_of _ _ (by omega), (f12 0 (by decide)).1]) kn (OrC_f2 o2 (Fr.rfl.I (ls := [0]) (by simp)) ⟨by decide, by decide⟩)
  · obtain ⟨g, g1, g2, g3⟩ := k5 (z.resolve_right (by omega))
    exact ⟨g, g1, by rw [(f12 97 (by decide)).1, (f12 98 (by decide)).1]; exact g2, by rw [(f12 92 (by decide)).1]; exact g3⟩
  · obtain ⟨a, b, c, g1, g2, g3, g4⟩ := k6 (z.resolve_right (by omega))
    exact ⟨a, b, c, g1, by rw [(f12 110 (by decide)).1]; exact g2, g3, g4⟩
  · obtain ⟨a, b, g1, g2⟩ := k7 (z.resolve_right (by omega))
    exact ⟨a, b, g1, by rw [(f12 0 (by decide)).1]; exact g2⟩
def lsK1 : List Nat := [0, 84, 85, 86, 87, 88, 89, 90, 91, 93, 94, 95, 96, 99, 100]
theorem k161 (h : RB s r o σ) (hk : Kn s.B σ) (ok : OkS s) (K : ∀ σ', Fr lsK1 σ σ' → σ'.2.2 0 = σ.2.2 0 → σ'.1 0 16 = σ.1 0 16 → Kn s.B σ' → KSq s.B σ' → Q (some (.ref 92)) σ') : Cm Θ (d + 6) 161 [.ref 0] σ Q := by
  obtain ⟨r1, r2, r3, r4⟩ := rB_r h
  obtain ⟨k, k1, k2, k3, k4, k5, k6, k7⟩ := id hk
  have hkB := ok.2.1.1
  have h16 := bk16 ok
  refine K161 (B161_0 ?_)
  rw [k2, (kbit k1).2.1, r1]
  refine ⟨fun q => K σ Fr.rfl rfl rfl hk (k4 (by simpa using q)), fun q => ⟨r2, r3, ?_⟩⟩
  refine k160 (d := d + 2) h hk ok fun s1 f1 rf1 e16 kn1 o1 => ⟨83, rfl, rfl, ?_⟩
  have hB1 := BkC_f2 h.2.2.1.1 f1 fun x x1 x2 z => by simp at z; omega
  try dsimp only
  rw [rf1, r1]
  refine ⟨r2, r3, ro (c17 r3 hB1.2.2.1.1 h16) ?_⟩
  refine c68 (d := d) (D := dO s.B) (T := Al s.B) (Or.inl rfl) (Fit_of hB1 hkB o1 rfl) (dOk s.B _ _) (fun c hc => al_lt hc) fun s2 f2 q2 => ⟨rfl, ?_⟩
  obtain ⟨k', k1', k2', k3', k4', k5', k6', k7'⟩ := id kn1
  have e17 : s2.1 0 17 = nI k' := by rw [(f2 0 (by decide)).1]; exact k2'
  have kn := Kn_set (B := s.B) (σ := s2) (b := 1) (by omega) k1' e17 (fun _ => OrC_f2 o1 f2 ⟨by decide, by decide⟩) (fun _ => q2) (fun z => ?_) (fun z => ?_) (fun z => ?_)
  · refine K _ (((f1.mono (by intro x hx; simp at hx; simp [lsK1]; omega)).tr (f2.mono (by intro x hx; simp at hx; simp [lsK1]; omega))).I (by simp [lsK1])) (by rw [sI_R, (f2 0 (by decide)).2.2]; exact rf1) (by rw [sI_of _ _ (by omega), (f2 0 (by decide)).1]; exact e16) kn (SqC_f2 q2 (Fr.rfl.I (ls := [0]) (by simp)) fun x x1 x2 z => by simp at z; omega)
  · obtain ⟨g, g1, g2, g3⟩ := k5' (z.resolve_right (by omega))
    exact ⟨g, g1, by rw [(f2 97 (by decide)).1, (f2 98 (by decide)).1]; exact g2, by rw [(f2 92 (by decide)).1]; exact g3⟩
  · obtain ⟨a, b, c, g1, g2, g3, g4⟩ := k6' (z.resolve_right (by omega))
    exact ⟨a, b, c, g1, by rw [(f2 110 (by decide)).1]; exact g2, g3, g4⟩
  · obtain ⟨a, b, g1, g2⟩ := k7' (z.resolve_right (by omega))
    exact ⟨a, b, g1, by rw [(f2 0 (by decide)).1]; exact g2⟩
def lsK2 : List Nat := [0, 84, 85, 86, 87, 88, 89, 90, 91, 92, 97, 98]
theorem k162 (h : RB s r o σ) (hk : Kn s.B σ) (ok : OkS s) (K : ∀ σ', Fr lsK2 σ σ' → σ'.2.2 0 = σ.2.2 0 → σ'.1 0 16 = σ.1 0 16 → Kn s.B σ' → KGp s.B σ' → Q (some (.ref 92)) σ') : Cm Θ (d + 6) 162 [.ref 0] σ Q := by
  obtain ⟨r1, r2, r3, r4⟩ := rB_r h
  obtain ⟨k, k1, k2, k3, k4, k5, k6, k7⟩ := id hk
  have hkB := ok.2.1.1
  have h16 := bk16 ok
  refine K162 (B162_0 ?_)
  rw [k2, (kbit k1).2.2.1, r1]
  refine ⟨fun q => K σ Fr.rfl rfl rfl hk (k5 (by simpa using q)), fun q => ⟨r2, r3, ?_⟩⟩
  refine k160 (d := d + 2) h hk ok fun s1 f1 rf1 e16 kn1 o1 => ⟨83, rfl, rfl, ?_⟩
  have hB1 := BkC_f2 h.2.2.1.1 f1 fun x x1 x2 z => by simp at z; omega
  refine c73 (d := d + 1) (D := dO s.B) (Or.inl rfl) (Fit_of hB1 hkB o1 rfl) (dOk s.B _ _) fun s2 f f2 q1 q2 q3 => ⟨rfl, ?_⟩
  obtain ⟨k', k1', k2', k3', k4', k5', k6', k7'⟩ := id kn1
  have e17 : s2.1 0 17 = nI k' := by rw [(f2 0 (by decide)).1]; exact k2'
  have kg : KGp s.B s2 := ⟨f, q1, q2, q3⟩
  have kn := Kn_set (B := s.B) (σ := s2) (b := 2) (by omega) k1' e17 (fun _ => OrC_f2 o1 f2 ⟨by decide, by decide⟩) (fun z => SqC_f2 (k4' (z.resolve_right (by omega))) f2 fun x x1 x2 z => by simp at z; omega) (fun _ => kg) (fun z => ?_) (fun z => ?_)
  · refine K _ (((f1.mono (by intro x hx; simp at hx; simp [lsK2]; omega)).tr (f2.mono (by intro x hx; simp at hx; simp [lsK2]; omega))).I (by simp [lsK2])) (by rw [sI_R, (f2 0 (by decide)).2.2]; exact rf1) (by rw [sI_of _ _ (by omega), (f2 0 (by decide)).1]; exact e16) kn ⟨f, q1, by rw [sI_ne (by decide), sI_ne (by decide)]; exact q2, by rw [sI_ne (by decide)]; exact q3⟩
  · obtain ⟨a, b, c, g1, g2, g3, g4⟩ := k6' (z.resolve_right (by omega))
    exact ⟨a, b, c, g1, by rw [(f2 110 (by decide)).1]; exact g2, g3, g4⟩
  · obtain ⟨a, b, g1, g2⟩ := k7' (z.resolve_right (by omega))
    exact ⟨a, b, g1, by rw [(f2 0 (by decide)).1]; exact g2⟩
def lsG : List Nat := [7, 8, 86, 87, 88, 89, 90, 91, 102, 103, 104, 105, 108, 109]
theorem k163 {a b : Nat} (hr : σ.2.2 0 2 = r) (hB : BkC r s.lv s.B σ) (ok : OkS s) (ha : a < 6) (hb : b < 6) (K : ∀ σ', Fr lsG σ σ' → SqC 101 (bW s.B) (bG s.B) (dG s.B a b) (Al s.B) σ' → Q (some (.ref 105)) σ') : Cm Θ (d + 6) 163 [.ref 0, .int (nI a), .int (nI b)] σ Q := by
  have r4 := hB.1
  have r3 := bk_s r4
  have r2 : r ≠ 0 := by omega
  have hkB := ok.2.1.1
  have h16 := bk16 ok
  refine K163 (B163_0 ?_)
  rw [hr, sX_1 (by omega), sX_1 (by omega), sX_or]
  refine ⟨r2, r3, ?_⟩
  refine (c76 (d := d + 3) (p := fun k => decide (k = a) || decide (k = b)) (Or.inl rfl) hB hkB).mono fun s1 ⟨f1, o1⟩ => ?_
  have hB1 := BkC_f2 hB f1 fun x x1 x2 z => by simp at z; omega
  rw [(f1 0 (by decide)).2.2, hr]
  refine ⟨r2, r3, r2, r3, ro (c17 r3 hB1.2.2.1.1 h16) ?_⟩
  refine c68 (d := d) (D := dG s.B a b) (T := Al s.B) (Or.inr rfl) (Fit_of hB1 hkB o1 rfl) (dOk s.B _ _) (fun c hc => al_lt hc) fun s2 f2 q2 => ⟨rfl, K s2 ((f1.mono (by intro x hx; simp at hx; simp [lsG]; omega)).tr (f2.mono (by intro x hx; simp at hx; simp [lsG]; omega))) q2⟩
theorem SqC_cst {B : Bk} {D : Nat → Nat → Bool} {T : Nat → Bool} {q : Nat} (h : SqC q (bW B) (bG B) D T σ) (hT : ∀ c, T c = true → c < bN B) {lv : Nat} (hk : BkOk lv B) : ∃ r, CstV B D T r ∧ r.den ≤ 2300000 ∧ 0 ≤ r ∧ r ≤ ((3686400 : Nat) : Rat) ∧ σ.2.1 (q + 4) 0 = jJ r.num ∧ σ.2.1 (q + 4) 1 = jJ (r.den : Nat) := by
  obtain ⟨f, r, h1, h2, h3, h4, h5⟩ := h
  have h16 : bN B ≤ 16 := by have := hk.2.1; omega
  have hw : ∀ c, c < bN B → bW B c ≤ 4 := fun c hc => (hk.2.2.2.2.1 c (by have := hk.2.1; omega)).2.2.2.2.1
  have hg : ∀ c, c < bN B → bG B c ≤ 240 := fun c hc => (hk.2.2.2.2.1 c (by have := hk.2.1; omega)).2.2.1
  have b1 := sq_rr (w := bW B) (g := bG B) (Z := T) (f := f) (wT_b h16 hT hw) (fun c _ hc => hg c (hT c hc)) (fun c hc hTc => ⟨(h5 c hc hTc).1.2.2.2.1, (h5 c hc hTc).1.2.2.2.2⟩)
  rw [← h2] at b1
  exact ⟨r, ⟨f, h1, h2⟩, h3, b1.1, b1.2, h4.1, h4.2⟩
theorem cst_one {B : Bk} {lv : Nat} {D : Nat → Nat → Bool} {T : Nat → Bool} {a b : Rat} (hk : BkOk lv B) (hT : ∀ c, T c = true → c < bN B) (h : CstV B D T a) (h' : CstV B D T b) : a = b := by
  obtain ⟨f, h1, h2⟩ := h
  obtain ⟨f', h1', h2'⟩ := h'
  have e := VI_one (fun c _ hc => Rat.natCast_pos.mpr (hk.2.2.2.2.1 c (by have := hT c hc; have := hk.2.1; omega)).2.2.2.1) h1 h1'
  rw [h2, h2']
  exact sT_congr fun c hc hTc => by rw [e c hc hTc]
end kno
