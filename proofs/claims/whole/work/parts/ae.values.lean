/-! THE CALLS: kept, cost, block: the values that are one alone -/
noncomputable def qVi (B : Bk) : Nat → Rat := Classical.epsilon (fun f => VI 16 (dO B) (Al B) (qF (bW B)) (qF (bG B)) f)
noncomputable def qC (B : Bk) (D : Nat → Nat → Bool) (T : Nat → Bool) : Rat := Classical.epsilon (fun r => CstV B D T r)
noncomputable def qKg (B : Bk) : Nat → Nat := Classical.epsilon (fun f => KG (bW B) (bG B) (dO B) (Al B) f)
noncomputable def qBl (B : Bk) (a : Nat) : Nat → Bool := Classical.epsilon (fun R => ∃ k, Chn (bW B) (bG B) (dO B) a k (Al B) R)
theorem wP {B : Bk} {lv : Nat} (hk : BkOk lv B) {c : Nat} (hc : Al B c = true) : 1 ≤ bW B c ∧ bW B c ≤ 4 ∧ bG B c ≤ 240 := by
  have := al_lt hc
  have h := hk.2.2.2.2.1 c (by have := hk.2.1; omega)
  exact ⟨h.2.2.2.1, h.2.2.2.2.1, h.2.2.1⟩
theorem qVi_is {B : Bk} {lv : Nat} {f : Nat → Rat} (hk : BkOk lv B) (h : VI 16 (dO B) (Al B) (qF (bW B)) (qF (bG B)) f) {c : Nat} (hc : c < bN B) : f c = qVi B c :=
  VI_one (fun c _ q => Rat.natCast_pos.mpr (wP hk q).1) h (Classical.epsilon_spec (p := fun f => VI 16 (dO B) (Al B) (qF (bW B)) (qF (bG B)) f) ⟨f, h⟩) c (by have := hk.2.1; omega) (decide_eq_true hc)
theorem qC_is {B : Bk} {lv : Nat} {D : Nat → Nat → Bool} {T : Nat → Bool} {r : Rat} (hk : BkOk lv B) (hT : ∀ c, T c = true → c < bN B) (h : CstV B D T r) : r = qC B D T :=
  cst_one hk hT h (Classical.epsilon_spec (p := fun r => CstV B D T r) ⟨r, h⟩)
theorem qKg_is {B : Bk} {f : Nat → Nat} (h : KG (bW B) (bG B) (dO B) (Al B) f) {c : Nat} (h16 : bN B ≤ 16) (hc : c < bN B) : f c = qKg B c :=
  kg_one h (Classical.epsilon_spec (p := fun f => KG (bW B) (bG B) (dO B) (Al B) f) ⟨f, h⟩) c (by omega) (decide_eq_true hc)
theorem qBl_is {B : Bk} {a k : Nat} {R : Nat → Bool} (ha : a < 16) (h : Chn (bW B) (bG B) (dO B) a k (Al B) R) {c : Nat} (hc : c < 16) : R c = qBl B a c := by
  obtain ⟨k', h'⟩ := Classical.epsilon_spec (p := fun R => ∃ k, Chn (bW B) (bG B) (dO B) a k (Al B) R) ⟨R, k, h⟩
  exact chn_one ha k _ R k' _ _ (fun _ _ => rfl) h h' c hc
noncomputable def rp (r : Rat) (x : Int32) : Int64 := if x = 0 then jJ r.num else jJ (r.den : Nat)
theorem rp_i {r : Rat} {x : Int32} {σ : Mem} {o i j : Nat} (h0 : σ.2.1 o i = jJ r.num) (h1 : σ.2.1 o j = jJ (r.den : Nat)) : (if x = 0 then σ.2.1 o i else σ.2.1 o j) = rp r x := by unfold rp; rw [h0, h1]
theorem frW_0 (σ : Mem) (o : Nat) {i j : Nat} (h : i ≠ j) (r : Rat) : (frW σ o i j r).2.1 o i = jJ r.num ∧ (frW σ o i j r).2.1 o j = jJ (r.den : Nat) := by
  unfold frW
  exact ⟨by rw [sL_of _ _ (by omega), sL_at], sL_at _ _ _ _⟩
theorem frW_f (σ : Mem) (o i j : Nat) (r : Rat) : Fr [o] σ (frW σ o i j r) := (Fr.rfl.L (by simp)).L (by simp)
theorem qR_ft {σ σ' : Mem} {ls : List Nat} (f : Ft ls σ σ') (hl : ∀ x, x ∈ ls → (126 ≤ x ∧ x ≤ 138) ∨ (149 ≤ x ∧ x ≤ 165) ∨ x = 171 ∨ x = 172) : QR σ σ' := by
  have g := f.fr
  refine ⟨cR_fr g fun x hx => ?_, fun j hj => g j fun q => ?_, fun y _ => by rw [f.2.1]⟩
  · rcases List.mem_cons.mp hx with q | q
    · omega
    · have := hl x q; omega
  · rcases List.mem_cons.mp q with q | q
    · omega
    · have := hl j q; omega
theorem qR_fw (σ : Mem) (r : Rat) : QR σ (frW σ 124 44 45 r) := qR_ft ((Ft.rfl (ls := [])).fw r) fun x hx => by cases hx
theorem nI_al {B : Bk} (h16 : bN B ≤ 16) : nI (2 ^ bN B - 1) = sX (Al B) := by
  have := pw_le h16
  rw [sX_nS (by omega)]
  exact sX_congr fun k _ => Nat.testBit_two_pow_sub_one _ _
theorem RB_x {s : St} {r o : Nat} {σ σ' : Mem} (h : RB s r o σ) (kn : Kn s.B σ) (f : Fr [123] σ σ') : CC σ σ' ∧ RB s r o σ' ∧ Kn s.B σ' :=
  ⟨cC_fr f fun x hx => by simp at hx; omega, RB_fr h f (f 0 (by decide)).2.2 (fun x hx => by simp at hx; omega), Kn_fr kn f (by rw [(f 0 (by decide)).1]; exact ⟨rfl, rfl⟩) (by rw [(f 110 (by decide)).1]; exact ⟨rfl, rfl, rfl⟩) fun x hx => by simp at hx; omega⟩
section ans2
variable {Θ : Th} {d : Nat} {σ : Mem} {Q : Po} {s : St}
theorem k161' {r o : Nat} (h : RB s r o σ) (hk : Kn s.B σ) (ok : OkS s) (K : ∀ σ', CC σ σ' → RB s r o σ' → Kn s.B σ' → KSq s.B σ' → Q (some (.ref 92)) σ') : Cm Θ (d + 6) 161 [.ref 0] σ Q :=
  k161 h hk ok fun s1 f1 rf1 e16 kn1 q1 => K s1 (cC_fr f1 fun x hx => by simp [lsK1] at hx; omega) (RB_fr h f1 rf1 fun x hx => by simp [lsK1] at hx; omega) kn1 q1
theorem k162' {r o : Nat} (h : RB s r o σ) (hk : Kn s.B σ) (ok : OkS s) (K : ∀ σ', CC σ σ' → RB s r o σ' → Kn s.B σ' → KGp s.B σ' → Q (some (.ref 92)) σ') : Cm Θ (d + 6) 162 [.ref 0] σ Q :=
  k162 h hk ok fun s1 f1 rf1 e16 kn1 q1 => K s1 (cC_fr f1 fun x hx => by simp [lsK2] at hx; omega) (RB_fr h f1 rf1 fun x hx => by simp [lsK2] at hx; omega) kn1 q1
theorem c47k {r o : Nat} {u : Int} {l : Nat} (h : RB s r o σ) (kn : Kn s.B σ) (hu : -9000000000000000000 < u) (hu' : u < 9000000000000000000) (h0 : 0 < l) (hl : l < 2 ^ 49) (K : ∀ σ', CC σ σ' → RB s r o σ' → Kn s.B σ' → Fr [123] σ σ' → (σ'.2.1 123 0 = jJ (mkRat u l).num ∧ σ'.2.1 123 1 = jJ ((mkRat u l).den : Nat)) → Q none σ') : Cm Θ (d + 1) 47 [.ref 123, .long (jJ u), .long (jJ l)] σ Q := by
  refine c47 rfl hu hu' h0 hl ?_
  have f := frW_f σ 123 0 1 (mkRat u l)
  obtain ⟨a, b, c⟩ := RB_x h kn f
  exact K _ a b c f (frW_0 σ 123 (by decide) _)
noncomputable def qKp (B : Bk) (x1 x2 x3 : Int32) : Int64 :=
  if x1.toInt < 0 ∨ 2 < x1.toInt then -1 else if dP (isN x2 (bN B)) = true then (if dP (isN x3 2) = true then
    rp (if x1 = 0 then qVi B x2.toNatClampNeg else if x1 = 1 then mkRat (qKg B x2.toNatClampNeg : Nat) 1 else mkRat ((hiG (dO B) (bG B) x2.toNatClampNeg (bN B) + loG (dO B) (bG B) x2.toNatClampNeg (bN B) : Nat)) 2) x3 else -1) else -1
theorem x3_1 {x : Int32} (h : dP (isN x 2) = true) (h0 : ¬ x = 0) : x = 1 := by
  obtain ⟨m, hm, e⟩ := isN_ex (dP_iff.mp h) (by decide)
  rw [e] at h0 ⊢
  have : m = 1 := by
    by_cases q : m = 0
    · rw [q] at h0; exact absurd rfl h0
    · omega
  rw [this]; rfl
theorem k126 {x1 x2 x3 : Int32} (h : RC s σ) (ok : OkS s) (K : ∀ σ', CC σ σ' → RC s σ' → Q (some (.long (qKp s.B x1 x2 x3))) σ') : Cm Θ (d + 8) 126 [.ref 0, .int x1, .int x2, .int x3] σ Q := by
  obtain ⟨r, o, hB, kn⟩ := id h
  obtain ⟨r1, r2, r3, r4⟩ := rB_r hB
  have h16 := bk16 ok
  have hkB := ok.2.1.1
  have hn := hB.2.2.1.1.2.2.1.1
  obtain ⟨t0, t1, t2⟩ := x012 (x := x1)
  unfold qKp at K
  refine K126 (B126_0 ?_)
  rw [r1]
  have bad : (dP (isN x2 (bN s.B)) = false ∨ dP (isN x3 2) = false ∨ x1.toInt < 0 ∨ 2 < x1.toInt) → Q (some (.long (-1))) σ := fun q => by
    have := K σ cC_rfl h
    by_cases y : x1.toInt < 0 ∨ 2 < x1.toInt
    · rw [if_pos y] at this; exact this
    rw [if_neg y] at this
    by_cases y1 : dP (isN x2 (bN s.B)) = true
    · by_cases y2 : dP (isN x3 2) = true
      · rw [y1, y2] at q
        rcases q with q | q | q
        · cases q
        · cases q
        · exact absurd q y
      · rw [if_pos y1, if_neg y2] at this; exact this
    · rw [if_neg y1] at this; exact this
  refine ⟨r2, r3, c12' r3 hn (by omega) ⟨_, rfl, fun z => bad (Or.inl (b01_0.mp z)), fun z => c155 ⟨_, rfl, fun y => ⟨fun w => ?_, fun w => ?_, fun w => ?_, fun w => ?_⟩, fun y => bad (Or.inr (Or.inl (b01_0.mp y)))⟩⟩⟩
  · exact bad (Or.inr (Or.inr w))
  all_goals (
    rw [b01_n] at y z
    obtain ⟨a, ha, e1⟩ := isN_ex (dP_iff.mp z) (by omega)
    rw [if_neg (by omega), if_pos z, if_pos y, e1, nI_clamp (by omega)] at K
    rw [e1])
  · rw [if_pos (t0.mp w)] at K
    refine k161' (d := d + 1) hB kn ok fun s1 cc hB1 kn1 q1 => ⟨92, rfl, rfl, ?_⟩
    have fin := K s1 cc ⟨r, o, hB1, kn1⟩
    obtain ⟨f, -, v1, -, -, -, v2⟩ := q1
    have e := qVi_is hkB v1 ha
    have g := (v2 a (by omega) (decide_eq_true ha)).1
    rw [← e] at fin
    refine K71 (B71_0 rfl ⟨fun u => ⟨vp_in_nI (by omega) (by decide), ?_⟩, fun u => ⟨vp_in_nI (by omega) (by decide), ?_⟩⟩)
    · refine ⟨_, rfl, ?_⟩
      unfold rp at fin; rw [if_neg u] at fin
      rw [nI_clamp (by omega), g.2.1]; exact fin
    · refine ⟨_, rfl, ?_⟩
      unfold rp at fin; rw [if_pos u] at fin
      rw [nI_clamp (by omega), g.1]; exact fin
  · rw [if_neg (fun q => by have := t0.mpr q; omega), if_pos (t1.mp w)] at K
    refine k162' (d := d + 1) hB kn ok fun s1 cc hB1 kn1 q1 => ⟨92, rfl, rfl, vp_in_nI (by omega) (by decide), ?_⟩
    obtain ⟨f, v1, v2, -⟩ := q1
    have e := qKg_is v1 h16 ha
    have g := v2 a ha
    try dsimp only
    rw [nI_clamp (by omega), g.2.1, nI_j (by omega), e]
    refine c47k (d := d + 6) (l := 1) hB1 kn1 (by rw [← e]; omega) (by rw [← e]; omega) (by decide) (by decide) fun s2 cc2 hB2 kn2 _ g2 => ⟨rfl, c49 rfl ⟨_, rfl, ?_⟩⟩
    rw [rp_i g2.1 g2.2]
    exact K s2 (cC_tr cc cc2) ⟨r, o, hB2, kn2⟩
  · rw [if_neg (fun q => by have := t0.mpr q; omega), if_neg (fun q => by have := t1.mpr q; omega)] at K
    refine k160' (d := d + 4) hB kn ok fun s1 cc hB1 kn1 o1 rd => ⟨83, rfl, rfl, ?_⟩
    obtain ⟨r1, r2, r3, r4⟩ := rB_r hB1
    try dsimp only
    rw [r1]
    refine ⟨r2, r3, c88 (d := d + 6) o1 rd ha ⟨_, rfl, ?_⟩⟩
    have b1 := hiG_le (D := dO s.B) (g := bG s.B) (i := a) (bN s.B) (rd.2.2.2.1 a ha).2 fun c hc => (rd.2.2.2.1 c hc).2
    have b2 := loG_le (D := dO s.B) (g := bG s.B) (i := a) (bN s.B) (rd.2.2.2.1 a ha).2
    try dsimp only
    rw [nI_j (by omega)]
    refine c47k (d := d + 6) (l := 2) hB1 kn1 (by omega) (by omega) (by decide) (by decide) fun s2 cc2 hB2 kn2 _ g2 => ⟨rfl, c49 rfl ⟨_, rfl, ?_⟩⟩
    rw [rp_i g2.1 g2.2]
    exact K s2 (cC_tr cc cc2) ⟨r, o, hB2, kn2⟩
theorem k217 {D : Nat → Nat → Bool} (h : RR s σ) (ok : OkS s) (hD : ∀ c, c < bN s.B → σ.1 149 c = sX (D c)) (hO : DOk (bN s.B) D) (K : ∀ σ', QR σ σ' → RR s σ' → SqR (bW s.B) (bG s.B) D (Al s.B) σ' → Q none σ') : Cm Θ (d + 4) 217 [.ref 124, .int (nI (2 ^ bN s.B - 1))] σ Q := by
  have h16 := bk16 ok
  have hk := ok.2.1.1
  have hlv : bN s.B ≤ s.lv := by have := hk.2.1; omega
  rw [nI_al h16]
  refine c217 (T := Al s.B) h.2.1.2.1.1 h16 (fun c hc => ⟨h.2.1.2.1.2.2.2.2.1 c (by omega), (wP hk (decide_eq_true hc)).1, (wP hk (decide_eq_true hc)).2.1⟩) (fun c hc => ⟨h.2.1.2.1.2.2.2.1 c (by omega), (wP hk (decide_eq_true hc)).2.2⟩) hD hO (fun c hc => al_lt hc) fun s1 f1 q1 => ?_
  have q := qR_ft f1 fun x hx => by simp at hx; omega
  exact K s1 q (RR_Q h q.2) q1
theorem k222 (h : RR s σ) (ok : OkS s) (hD : OrR s.B (dO s.B) σ) (K : ∀ σ' f, QR σ σ' → RR s σ' → KG (bW s.B) (bG s.B) (dO s.B) (Al s.B) f → (∀ c, c < bN s.B → f c ≤ 240 ∧ σ'.1 157 c = nI (f c)) → Q none σ') : Cm Θ (d + 2) 222 [.ref 124] σ Q := by
  have h16 := bk16 ok
  have hk := ok.2.1.1
  have hlv : bN s.B ≤ s.lv := by have := hk.2.1; omega
  refine c222 h.2.1.2.1.1 h16 (fun c hc => ⟨h.2.1.2.1.2.2.2.2.1 c (by omega), (wP hk (decide_eq_true hc)).1, (wP hk (decide_eq_true hc)).2.1⟩) (fun c hc => ⟨h.2.1.2.1.2.2.2.1 c (by omega), (wP hk (decide_eq_true hc)).2.2⟩) (fun c hc => (hD c hc).2) (dOk s.B _ _) fun s1 f f1 q1 q2 => ?_
  have q := qR_fr f1 fun x hx => by simp at hx; omega
  exact K s1 f q (RR_Q h q.2) q1 q2
theorem c211k {u : Int} {l : Nat} (h : RR s σ) (hu : -9000000000000000000 < u) (hu' : u < 9000000000000000000) (h0 : 0 < l) (hl : l < 2 ^ 49) (K : ∀ σ', QR σ σ' → RR s σ' → Ft [] σ σ' → (σ'.2.1 124 44 = jJ (mkRat u l).num ∧ σ'.2.1 124 45 = jJ ((mkRat u l).den : Nat)) → Q none σ') : Cm Θ (d + 1) 211 [.ref 124, .long (jJ u), .long (jJ l)] σ Q := by
  refine c211 hu hu' h0 hl ?_
  have q := qR_fw σ (mkRat u l)
  exact K _ q (RR_Q h q.2) (Ft.rfl.fw _) (frW_0 σ 124 (by decide) _)
theorem k228 {x1 x2 x3 : Int32} (h : RR s σ) (ok : OkS s) (K : ∀ σ', CR σ σ' → RR s σ' → Q (some (.long (qKp s.B x1 x2 x3))) σ') : Cm Θ (d + 8) 228 [.ref 124, .int x1, .int x2, .int x3] σ Q := by
  have h16 := bk16 ok
  have hkB := ok.2.1.1
  have hn := h.2.1.2.1.1
  have l0 : x1 < 0 ↔ x1.toInt < 0 := i_lt
  have l2 : (2 : Int32) < x1 ↔ 2 < x1.toInt := i_lt
  obtain ⟨t0, t1, t2⟩ := x012 (x := x1)
  unfold qKp at K
  have bad : (dP (isN x2 (bN s.B)) = false ∨ dP (isN x3 2) = false ∨ x1.toInt < 0 ∨ 2 < x1.toInt) → Q (some (.long (-1))) σ := fun q => by
    have := K σ cR_rfl h
    by_cases y : x1.toInt < 0 ∨ 2 < x1.toInt
    · rw [if_pos y] at this; exact this
    rw [if_neg y] at this
    by_cases y1 : dP (isN x2 (bN s.B)) = true
    · by_cases y2 : dP (isN x3 2) = true
      · rw [y1, y2] at q
        rcases q with q | q | q
        · cases q
        · cases q
        · exact absurd q y
      · rw [if_pos y1, if_neg y2] at this; exact this
    · rw [if_neg y1] at this; exact this
  refine K228 (B228_0 ⟨fun z => bad (Or.inr (Or.inr (Or.inl (l0.mp z)))), fun zz => ⟨fun z => bad (Or.inr (Or.inr (Or.inr (l2.mp z)))), fun zw => c200 hn (by omega) ⟨_, rfl, fun z => bad (Or.inl (b01_0.mp z)), fun z => c213 ⟨_, rfl, fun y => ?_, fun y => bad (Or.inr (Or.inl (b01_0.mp y)))⟩⟩⟩⟩)
  rw [b01_n] at y z
  rw [l0] at zz; rw [l2] at zw
  obtain ⟨a, ha, e1⟩ := isN_ex (dP_iff.mp z) (by omega)
  rw [if_neg (by omega), if_pos z, if_pos y, e1, nI_clamp (by omega)] at K
  rw [e1]
  refine k198 (d := d + 5) h ok fun s1 cc hR1 o1 => ⟨rfl, fun w0 => ⟨fun w1 => ?_, fun w1 => ?_⟩, fun w0 => ?_⟩
  · rw [if_neg w0, if_neg w1] at K
    refine c227 (d := d + 6) hR1.2.1 hkB o1 ha ⟨_, rfl, ?_⟩
    have b1 := hiG_le (D := dO s.B) (g := bG s.B) (i := a) (bN s.B) (bk_g hR1.2.1 hkB ha).2 fun c hc => (bk_g hR1.2.1 hkB hc).2
    have b2 := loG_le (D := dO s.B) (g := bG s.B) (i := a) (bN s.B) (bk_g hR1.2.1 hkB ha).2
    try dsimp only
    rw [nI_j (by omega)]
    refine c211k (d := d + 6) (l := 2) hR1 (by omega) (by omega) (by decide) (by decide) fun s2 q2 hR2 _ g2 => ⟨rfl, c214 ⟨_, rfl, ?_⟩⟩
    rw [rp_i g2.1 g2.2]
    exact K s2 (cR_tr cc q2.1) hR2
  · rw [if_neg w0, if_pos w1] at K
    refine k222 (d := d + 5) hR1 ok o1 fun s2 f q2 hR2 v1 v2 => ⟨rfl, vp_in_nI (by omega) (by decide), ?_⟩
    have e := qKg_is v1 h16 ha
    have g := v2 a ha
    try dsimp only
    rw [nI_clamp (by omega), g.2, nI_j (by omega), e]
    refine c211k (d := d + 6) (l := 1) hR2 (by rw [← e]; omega) (by rw [← e]; omega) (by decide) (by decide) fun s3 q3 hR3 _ g3 => ⟨rfl, c214 ⟨_, rfl, ?_⟩⟩
    rw [rp_i g3.1 g3.2]
    exact K s3 (cR_tr cc (cR_tr q2.1 q3.1)) hR3
  · rw [if_pos w0] at K
    refine c219 hR1.2.1.2.1.1 h16 ⟨_, rfl, ?_⟩
    refine k217 (d := d + 3) hR1 ok (fun c hc => (o1 c hc).1) (dOk s.B _ _) fun s2 q2 hR2 g2 => ⟨rfl, ?_⟩
    have fin := K s2 (cR_tr cc q2.1) hR2
    obtain ⟨f, -, v1, -, -, -, v2⟩ := g2
    have e := qVi_is hkB v1 ha
    have g := v2 a (by omega) (decide_eq_true ha)
    rw [← e] at fin
    unfold rp at fin
    refine ⟨fun u => ⟨vp_in_nI (by omega) (by decide), ?_⟩, fun u => ⟨vp_in_nI (by omega) (by decide), ?_⟩⟩
    · rw [if_neg u] at fin
      rw [nI_clamp (by omega), g.2.1]; exact fin
    · rw [if_pos u] at fin
      rw [nI_clamp (by omega), g.1]; exact fin
/-- block(i) -/
noncomputable def qBk (B : Bk) (x : Int32) : Int32 := if dP (isN x (bN B)) = true then sX (qBl B x.toNatClampNeg) else -1
theorem k128 {x1 : Int32} (h : RC s σ) (ok : OkS s) (K : ∀ σ', CC σ σ' → RC s σ' → Q (some (.int (qBk s.B x1))) σ') : Cm Θ (d + 7) 128 [.ref 0, .int x1] σ Q := by
  obtain ⟨r, o, hB, kn⟩ := id h
  obtain ⟨r1, r2, r3, r4⟩ := rB_r hB
  have h16 := bk16 ok
  have hn := hB.2.2.1.1.2.2.1.1
  unfold qBk at K
  refine K128 (B128_0 ?_)
  rw [r1]
  refine ⟨r2, r3, c12' r3 hn (by omega) ⟨_, rfl, fun z => ?_, fun z => ?_⟩⟩
  · rw [b01_0] at z; rw [z] at K; exact K σ cC_rfl h
  rw [b01_n] at z
  rw [if_pos z] at K
  obtain ⟨a, ha, e1⟩ := isN_ex (dP_iff.mp z) (by omega)
  rw [e1, nI_clamp (by omega)] at K
  rw [e1]
  refine k161' (d := d) hB kn ok fun s1 cc hB1 kn1 q1 => ⟨92, rfl, rfl, vp_in_nI (by omega) (by decide), ?_⟩
  have fin := K s1 cc ⟨r, o, hB1, kn1⟩
  obtain ⟨f, -, -, -, -, -, v2⟩ := q1
  obtain ⟨R, kk, c1, -, c2⟩ := (v2 a (by omega) (decide_eq_true ha)).2
  try dsimp only
  rw [nI_clamp (by omega), c2, sX_congr fun c hc => qBl_is (by omega) c1 hc]
  exact fin
theorem k226 {x1 : Int32} (h : RR s σ) (ok : OkS s) (K : ∀ σ', CR σ σ' → RR s σ' → Q (some (.int (qBk s.B x1))) σ') : Cm Θ (d + 4) 226 [.ref 124, .int x1] σ Q := by
  have h16 := bk16 ok
  have hk := ok.2.1.1
  have hn := h.2.1.2.1.1
  have hlv : bN s.B ≤ s.lv := by have := hk.2.1; omega
  have h65 := pw_le h16
  unfold qBk at K
  refine K226 (B226_0 (c200 hn (by omega) ⟨_, rfl, fun z => ?_, fun z => ?_⟩))
  · rw [b01_n] at z
    rw [if_pos z] at K
    obtain ⟨a, ha, e1⟩ := isN_ex (dP_iff.mp z) (by omega)
    rw [e1, nI_clamp (by omega)] at K
    rw [e1]
    refine k198 (d := d + 1) h ok fun s1 cc1 hR1 o1 => ⟨rfl, ?_⟩
    refine c216 (d := d + 2) (D := dO s.B) hR1.2.1.2.1.1 h16 (fun c hc => hR1.2.1.2.1.2.2.2.2.1 c (by omega)) (fun c hc => hR1.2.1.2.1.2.2.2.1 c (by omega)) (fun c hc => (o1 c hc).1) fun s2 f2 y2 => ⟨rfl, ?_⟩
    have q2 := qR_fr f2 fun x hx => by simp at hx; omega
    have hR2 := RR_Q hR1 q2.2
    refine c221 (d := d + 2) (D := dO s.B) hR2.2.1.2.1.1 h16 (fun c hc => by rw [(f2 150 (by decide)).1]; exact (o1 c hc).2) fun s3 f3 y3 => ⟨rfl, ?_⟩
    have q3 := qR_fr f3 fun x hx => by simp at hx; omega
    have hR3 := RR_Q hR2 q3.2
    have fin := K s3 (cR_tr cc1 (cR_tr q2.1 q3.1)) hR3
    have lay : ∀ x, x < 2 ^ bN s.B → s3.1 152 x = nI (wT (bW s.B) x.testBit) ∧ s3.1 153 x = nI (gT (bW s.B) (bG s.B) x.testBit) := fun x hx => by
      rw [(f3 152 (by decide)).1, (f3 153 (by decide)).1]; exact (y2 x hx).2
    have hw : ∀ c, c < bN s.B → 1 ≤ bW s.B c ∧ bW s.B c ≤ 4 := fun c hc => ⟨(wP hk (decide_eq_true hc)).1, (wP hk (decide_eq_true hc)).2.1⟩
    have hg : ∀ c, c < bN s.B → bG s.B c ≤ 240 := fun c hc => (wP hk (decide_eq_true hc)).2.2
    have hp := Nat.two_pow_pos (bN s.B)
    have et : ∀ c, (2 ^ bN s.B - 1).testBit c = Al s.B c := fun c => Nat.testBit_two_pow_sub_one _ _
    refine c219 hR3.2.1.2.1.1 h16 ⟨_, rfl, c225 (d := d + 2) h16 hw hg (dOk s.B _ _) lay y3 (by omega) fun b hb mx => ⟨_, rfl, ?_⟩⟩
    refine c226_33 (d := d + 2) (T := Al s.B) (by omega) h16 hw hg (dOk s.B _ _) lay y3 (by omega) hb (by rw [et]; exact decide_eq_true ha) mx (fun kk R c => ⟨kk, ?_⟩) (fun c hc => by rw [← et]; exact hc) fun R kk c1 _ => ?_
    · have : (2 ^ bN s.B - 1).testBit = Al s.B := funext et
      rw [← this]; exact c
    · rw [sX_congr fun c hc => qBl_is (by omega) c1 hc]; exact fin
  · rw [b01_0] at z; rw [z] at K; exact K σ cR_rfl h
end ans2
