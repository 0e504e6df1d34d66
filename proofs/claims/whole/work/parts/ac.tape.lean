/-! THE CALLS: the tape -/
def lsCls : List Nat := List.range 124
def CC (σ σ' : Mem) : Prop := Fr lsCls σ σ'
theorem cC_fr {σ σ' : Mem} {ls : List Nat} (f : Fr ls σ σ') (hl : ∀ x, x ∈ ls → x < 124) : CC σ σ' := f.mono fun x hx => List.mem_range.mpr (hl x hx)
theorem cC_rfl {σ : Mem} : CC σ σ := Fr.rfl
theorem cC_tr {σ σ' σ'' : Mem} (h : CC σ σ') (h' : CC σ' σ'') : CC σ σ'' := Fr.tr h h'
theorem RR_CC {s : St} {σ σ' : Mem} (h : RR s σ) (f : CC σ σ') : RR s σ' := RR_cls h f fun x hx => List.mem_range.mp hx
theorem nar8 (x : Int32) : (x &&& 255).toInt8 = x.toInt8 := by
  apply Int8.toBitVec_inj.mp
  apply BitVec.eq_of_getLsbD_eq
  intro i hi
  have h : (255 : Int32).toBitVec.getLsbD i = true := by
    have : ∀ j : Fin 8, (255 : Int32).toBitVec.getLsbD j.val = true := by decide +kernel
    exact this ⟨i, hi⟩
  show ((x &&& 255).toBitVec.signExtend 8).getLsbD i = (x.toBitVec.signExtend 8).getLsbD i
  rw [BitVec.getLsbD_signExtend, BitVec.getLsbD_signExtend, Int32.toBitVec_and, BitVec.getLsbD_and, h]
  have : i < 32 := by omega
  simp [this]
theorem and255 (x : Int32) : ∃ v : Nat, v < 256 ∧ x &&& 255 = nI v := by
  have hb : ∀ i, 8 ≤ i → bt (x &&& 255) i = false := fun i hi => by
    rw [bt_and]
    have : bt 255 i = false := by
      rcases Nat.lt_or_ge i 32 with q | q
      · have : ∀ j : Fin 32, 8 ≤ j.val → bt 255 j.val = false := by decide +kernel
        exact this ⟨i, q⟩ hi
      · exact bt_hi 255 q
    rw [this, Bool.and_false]
  have e : x &&& 255 = nI (nS 8 (fun k => bt (x &&& 255) k)) := bt_ext fun k hk => by
    rw [bt_nI _ hk, nS_bit]
    by_cases q : k < 8
    · simp [q]
    · rw [hb k (by omega)]; simp [q]
  exact ⟨_, nS_lt _ 8, e⟩
/-- a byte of a number -/
noncomputable def byt (x : Int32) (k : Nat) : Nat := Classical.choose (and255 (x >>> (nI k &&& 31)))
theorem byt_lt (x : Int32) (k : Nat) : byt x k < 256 := (Classical.choose_spec (and255 (x >>> (nI k &&& 31)))).1
theorem byt_r (x : Int32) (k : Nat) : (x >>> (nI k &&& 31)) &&& 255 = nI (byt x k) := (Classical.choose_spec (and255 (x >>> (nI k &&& 31)))).2
theorem byt_c (x : Int32) (k : Nat) : vp_nar .byte ((x >>> (nI k &&& 31)).toInt8.toInt32) = iI (sgb (byt x k)) := by
  rw [← nar8, byt_r]
  have : ∀ v : Fin 256, vp_nar .byte ((nI v.val).toInt8.toInt32) = iI (sgb v.val) := by decide +kernel
  exact this ⟨_, byt_lt x k⟩
/-- four bytes behind the others -/
noncomputable def put4 (b : Nat → Nat) (n : Nat) (x : Int32) : Nat → Nat := fun i => if i = n then byt x 24 else if i = n + 1 then byt x 16 else if i = n + 2 then byt x 8 else if i = n + 3 then byt x 0 else b i
theorem put4_lt {b : Nat → Nat} (h : ∀ i, b i < 256) (n : Nat) (x : Int32) (i : Nat) : put4 b n x i < 256 := by
  unfold put4
  repeat' split
  all_goals first | exact byt_lt _ _ | exact h i
section tap
variable {Θ : Th} {d : Nat} {σ : Mem} {Q : Po} {s : St}
theorem c100 {b : Nat → Nat} {n : Nat} {x : Int32} (h : TpC b n σ) (hn : n + 4 ≤ 1300) (K : ∀ σ', Fr [1, 2] σ σ' → (∀ y, y ≠ 0 → σ'.1 1 y = σ.1 1 y) → σ'.2 = σ.2 → TpC (put4 b n x) (n + 4) σ' → Q none σ') : Cm Θ d 100 [.ref 1, .int x] σ Q := by
  have st : ∀ (k sh : Nat) (σ1 : Mem), n + k < 1300 → sh < 32 → σ1.1 1 0 = nI (n + k) → G Θ d 100 3 [some (.ref 1), some (.int x), some (.int (nI sh + (-8)))] [] (sI (sI σ1 2 (n + k) (iI (sgb (byt x sh)))) 1 0 (nI (n + k + 1))) Q → G Θ d 100 3 [some (.ref 1), some (.int x), some (.int (nI sh))] [] σ1 Q := fun k sh σ1 h1 h2 h0 k1 => by
    refine B100_3 ⟨fun z => absurd z (nI_pos (by omega)), fun _ => ⟨fun z => absurd z (by rw [h0]; exact nI_ge (b := 1300) h1 (by omega)), fun _ => ?_⟩⟩
    have e : ∀ v, (sI σ1 2 (n + k) v).1 1 0 = nI (n + k) := fun v => by rw [sI_of _ _ (by omega)]; exact h0
    rw [h0, nI_clamp (by omega), e, nI_1, byt_c]
    exact ⟨vp_in_nI h1 (by decide), k1⟩
  refine K100 (B100_0 ?_)
  refine st 0 24 σ (by omega) (by omega) h.1 ?_
  refine st 1 16 _ (by omega) (by omega) (sI_at _ _ _ _) ?_
  refine st 2 8 _ (by omega) (by omega) (sI_at _ _ _ _) ?_
  refine st 3 0 _ (by omega) (by omega) (sI_at _ _ _ _) ?_
  refine B100_3 ⟨fun _ => ?_, fun z => absurd (by decide) z⟩
  refine K _ ((((((((Fr.rfl.I (by simp)).I (by simp)).I (by simp)).I (by simp)).I (by simp)).I (by simp)).I (by simp)).I (by simp)) (fun y hy => ?_) rfl ⟨sI_at _ _ _ _, fun i hi => ?_⟩
  · rw [sI_of _ _ (by omega), sI_of _ _ (by omega), sI_of _ _ (by omega), sI_of _ _ (by omega), sI_of _ _ (by omega), sI_of _ _ (by omega), sI_of _ _ (by omega), sI_of _ _ (by omega)]
  · unfold put4
    rw [sI_of _ _ (show ¬ (2 = 1 ∧ i = 0) by omega)]
    by_cases q3 : i = n + 3
    · rw [if_neg (by omega), if_neg (by omega), if_neg (by omega), if_pos q3, q3, sI_at]
    rw [sI_of _ _ (by omega), sI_of _ _ (show ¬ (2 = 1 ∧ i = 0) by omega)]
    by_cases q2 : i = n + 2
    · rw [if_neg (by omega), if_neg (by omega), if_pos q2, q2, sI_at]
    rw [sI_of _ _ (by omega), sI_of _ _ (show ¬ (2 = 1 ∧ i = 0) by omega)]
    by_cases q1 : i = n + 1
    · rw [if_neg (by omega), if_pos q1, q1, sI_at]
    rw [sI_of _ _ (by omega), sI_of _ _ (show ¬ (2 = 1 ∧ i = 0) by omega)]
    by_cases q0 : i = n
    · rw [if_pos q0, q0]; exact sI_at _ _ _ _
    rw [sI_of _ _ (by omega), if_neg q0, if_neg q1, if_neg q2, if_neg q3]
    exact h.2 i (by omega)
theorem c169 {b : Nat → Nat} {n : Nat} {x : Int32} (h : σ.1 124 1 = nI n ∧ ∀ i, i < n → σ.1 125 i = nI (b i)) (hn : n + 4 ≤ 1300) (K : ∀ σ', Fr [124, 125] σ σ' → (∀ y, y ≠ 1 → σ'.1 124 y = σ.1 124 y) → σ'.2 = σ.2 → (σ'.1 124 1 = nI (n + 4) ∧ ∀ i, i < n + 4 → σ'.1 125 i = nI (put4 b n x i)) → Q none σ') : Cm Θ d 169 [.ref 124, .int x] σ Q := by
  have st : ∀ (k sh : Nat) (σ1 : Mem), n + k < 1300 → sh < 32 → σ1.1 124 1 = nI (n + k) → G Θ d 169 3 [some (.ref 124), some (.int x), some (.int (nI sh + (-8)))] [] (sI (sI σ1 125 (n + k) (nI (byt x sh))) 124 1 (nI (n + k + 1))) Q → G Θ d 169 3 [some (.ref 124), some (.int x), some (.int (nI sh))] [] σ1 Q := fun k sh σ1 h1 h2 h0 k1 => by
    refine B169_3 ⟨fun z => absurd z (nI_pos (by omega)), fun _ => ?_⟩
    have e : ∀ v, (sI σ1 125 (n + k) v).1 124 1 = nI (n + k) := fun v => by rw [sI_of _ _ (by omega)]; exact h0
    rw [h0, nI_clamp (by omega), e, nI_1, byt_r]
    exact ⟨vp_in_nI h1 (by decide), k1⟩
  refine K169 (B169_0 ?_)
  refine st 0 24 σ (by omega) (by omega) h.1 ?_
  refine st 1 16 _ (by omega) (by omega) (sI_at _ _ _ _) ?_
  refine st 2 8 _ (by omega) (by omega) (sI_at _ _ _ _) ?_
  refine st 3 0 _ (by omega) (by omega) (sI_at _ _ _ _) ?_
  refine B169_3 ⟨fun _ => ?_, fun z => absurd (by decide) z⟩
  refine K _ ((((((((Fr.rfl.I (by simp)).I (by simp)).I (by simp)).I (by simp)).I (by simp)).I (by simp)).I (by simp)).I (by simp)) (fun y hy => ?_) rfl ⟨sI_at _ _ _ _, fun i hi => ?_⟩
  · rw [sI_of _ _ (by omega), sI_of _ _ (by omega), sI_of _ _ (by omega), sI_of _ _ (by omega), sI_of _ _ (by omega), sI_of _ _ (by omega), sI_of _ _ (by omega), sI_of _ _ (by omega)]
  · unfold put4
    rw [sI_of _ _ (show ¬ (125 = 124 ∧ i = 1) by omega)]
    by_cases q3 : i = n + 3
    · rw [if_neg (by omega), if_neg (by omega), if_neg (by omega), if_pos q3, q3, sI_at]
    rw [sI_of _ _ (by omega), sI_of _ _ (show ¬ (125 = 124 ∧ i = 1) by omega)]
    by_cases q2 : i = n + 2
    · rw [if_neg (by omega), if_neg (by omega), if_pos q2, q2, sI_at]
    rw [sI_of _ _ (by omega), sI_of _ _ (show ¬ (125 = 124 ∧ i = 1) by omega)]
    by_cases q1 : i = n + 1
    · rw [if_neg (by omega), if_pos q1, q1, sI_at]
    rw [sI_of _ _ (by omega), sI_of _ _ (show ¬ (125 = 124 ∧ i = 1) by omega)]
    by_cases q0 : i = n
    · rw [if_pos q0, q0]; exact sI_at _ _ _ _
    rw [sI_of _ _ (by omega), if_neg q0, if_neg q1, if_neg q2, if_neg q3]
    exact h.2 i (by omega)
/-- the tape of a state -/
def stT (s : St) (b : Nat → Nat) (n : Nat) : St := ((b, n, s.f, s.p), s.2)
theorem ok_stT {b : Nat → Nat} {n : Nat} (ok : OkS s) (hb : ∀ i, b i < 256) (hn : n ≤ 1300) : OkS (stT s b n) := ⟨⟨hb, hn⟩, ok.2⟩
/-- a class's state when the tape alone is another -/
theorem RC_tape {b : Nat → Nat} {n : Nat} {σ' : Mem} (h : RC s σ) (f : Fr [1, 2] σ σ') (h1 : ∀ y, y ≠ 0 → σ'.1 1 y = σ.1 1 y) (hT : TpC b n σ') : RC (stT s b n) σ' := by
  obtain ⟨r, o, ⟨h0, t, ⟨bk, nw⟩, lw, ac, xc, z⟩, kn⟩ := h
  have hr := bk.1
  have ho := lw.1
  refine ⟨r, o, ⟨by rw [(f 0 (by decide)).2.2]; exact h0, ⟨hT, by rw [h1 1 (by decide)]; exact t.2.1, by rw [h1 2 (by decide)]; exact t.2.2⟩, ⟨BkC_f2 bk f fun x x1 x2 q => by simp at q; omega, NwC_fr nw f fun q => by simp at q⟩, LwS_fr lw f fun x x1 x2 q => by simp at q; omega, AcC_fr ac f fun x x1 x2 q => by simp at q; omega, XC_fr xc f fun x x1 x2 q => by simp at q; omega, by rw [(f 113 (by decide)).1]; exact z⟩, Kn_fr kn f (by rw [(f 0 (by decide)).1]; exact ⟨rfl, rfl⟩) (by rw [(f 110 (by decide)).1]; exact ⟨rfl, rfl, rfl⟩) fun x hx => by simp at hx; omega⟩
theorem RR_tape {b : Nat → Nat} {n : Nat} {σ' : Mem} (h : RR s σ) (f : Fr [124, 125] σ σ') (h1 : ∀ y, y ≠ 1 → σ'.1 124 y = σ.1 124 y) (hT : σ'.1 124 1 = nI n ∧ ∀ i, i < n → σ'.1 125 i = nI (b i)) : RR (stT s b n) σ' := by
  obtain ⟨⟨-, t2, t3⟩, bk, nw, lw, ac, xc⟩ := h
  have e : ∀ j, 126 ≤ j → σ'.1 j = σ.1 j ∧ σ'.2.1 j = σ.2.1 j := fun j hj => ⟨(f j (by simp; omega)).1, (f j (by simp; omega)).2.1⟩
  exact ⟨⟨hT, by rw [h1 2 (by decide)]; exact t2, by rw [h1 3 (by decide)]; exact t3⟩, BkR_eq (fun j a c => e j (by omega)) (h1 37 (by decide)) (h1 38 (by decide)) (h1 39 (by decide)) bk, by rw [(e 173 (by omega)).1]; exact nw, LwF_eq (fun j a c => (e j (by omega)).1) (h1 70 (by decide)) lw, AcR_eq (h1 78 (by decide)) (h1 79 (by decide)) (e 174 (by omega)).1 (e 175 (by omega)).1 (e 176 (by omega)).1 ac, XR_eq (fun j a c => (e j (by omega)).1) xc⟩
noncomputable def feedB (b : Nat → Nat) (n : Nat) (x1 x2 x3 x4 x5 : Int32) : Nat → Nat := put4 (put4 (put4 (put4 (put4 b n x1) (n + 4) x2) (n + 8) x3) (n + 12) x4) (n + 16) x5
theorem k117 {x1 x2 x3 x4 x5 : Int32} (h : RC s σ) (ok : OkS s) (K0 : ¬ s.n + 20 ≤ 1300 → Q (some (.int (-1))) σ) (K1 : ∀ σ', s.n + 20 ≤ 1300 → CC σ σ' → RC (stT s (feedB s.b s.n x1 x2 x3 x4 x5) (s.n + 20)) σ' → Q (some (.int (nI (s.n + 20)))) σ') : Cm Θ (d + 1) 117 [.ref 0, .int x1, .int x2, .int x3, .int x4, .int x5] σ Q := by
  obtain ⟨r, o, hB, kn⟩ := id h
  have hT := hB.2.1.1
  have hn := ok.1.2
  refine K117 (B117_0 ?_)
  have l : nI (s.n + 20) ≤ 1300 ↔ s.n + 20 ≤ 1300 := nI_leI (b := 1300) (by omega) (by omega)
  rw [hT.1, show (20 : Int32) = nI 20 from rfl, nI_add, l]
  refine ⟨fun hle => ?_, K0⟩
  refine c100 hT (by omega) fun s1 f1 o1 e1 t1 => ⟨rfl, ?_⟩
  refine c100 t1 (by omega) fun s2 f2 o2 e2 t2 => ⟨rfl, ?_⟩
  refine c100 t2 (by omega) fun s3 f3 o3 e3 t3 => ⟨rfl, ?_⟩
  refine c100 t3 (by omega) fun s4 f4 o4 e4 t4 => ⟨rfl, ?_⟩
  refine c100 t4 (by omega) fun s5 f5 o5 e5 t5 => ⟨rfl, ?_⟩
  have F := f1.tr (f2.tr (f3.tr (f4.tr f5)))
  try dsimp only
  rw [t5.1]
  exact K1 s5 hle (cC_fr F fun x hx => by simp at hx; omega) (RC_tape h F (fun y hy => by rw [o5 y hy, o4 y hy, o3 y hy, o2 y hy, o1 y hy]) t5)
theorem k168 {x1 x2 x3 x4 x5 : Int32} (h : RR s σ) (ok : OkS s) (K0 : ¬ s.n + 20 ≤ 1300 → Q (some (.int (-1))) σ) (K1 : ∀ σ', s.n + 20 ≤ 1300 → CR σ σ' → RR (stT s (feedB s.b s.n x1 x2 x3 x4 x5) (s.n + 20)) σ' → Q (some (.int (nI (s.n + 20)))) σ') : Cm Θ (d + 1) 168 [.ref 124, .int x1, .int x2, .int x3, .int x4, .int x5] σ Q := by
  have hT := h.1.1
  have hn := ok.1.2
  refine K168 (B168_0 ?_)
  have l : nI (s.n + 20) ≤ 1300 ↔ s.n + 20 ≤ 1300 := nI_leI (b := 1300) (by omega) (by omega)
  rw [hT.1, show (20 : Int32) = nI 20 from rfl, nI_add, l]
  refine ⟨fun hle => ?_, K0⟩
  refine c169 hT (by omega) fun s1 f1 o1 e1 t1 => ⟨rfl, ?_⟩
  refine c169 t1 (by omega) fun s2 f2 o2 e2 t2 => ⟨rfl, ?_⟩
  refine c169 t2 (by omega) fun s3 f3 o3 e3 t3 => ⟨rfl, ?_⟩
  refine c169 t3 (by omega) fun s4 f4 o4 e4 t4 => ⟨rfl, ?_⟩
  refine c169 t4 (by omega) fun s5 f5 o5 e5 t5 => ⟨rfl, ?_⟩
  have F := f1.tr (f2.tr (f3.tr (f4.tr f5)))
  try dsimp only
  rw [t5.1]
  exact K1 s5 hle (cR_fr F fun x hx => by simp at hx; omega) (RR_tape h F (fun y hy => by rw [o5 y hy, o4 y hy, o3 y hy, o2 y hy, o1 y hy]) t5)
theorem ok_feed {x1 x2 x3 x4 x5 : Int32} (ok : OkS s) (h : s.n + 20 ≤ 1300) : OkS (stT s (feedB s.b s.n x1 x2 x3 x4 x5) (s.n + 20)) :=
  ok_stT ok (put4_lt (put4_lt (put4_lt (put4_lt (put4_lt ok.1.1 _ _) _ _) _ _) _ _) _ _) h
/-- end(n) -/
theorem k118 {x : Int32} (h : RC s σ) (ok : OkS s) (K0 : ¬ isN x (s.n + 1) → Q (some (.int (-1))) σ) (K1 : ∀ n σ', n ≤ s.n → x = nI n → CC σ σ' → RC (stT s s.b n) σ' → Q (some (.int x)) σ') : Cm Θ d 118 [.ref 0, .int x] σ Q := by
  obtain ⟨r, o, hB, kn⟩ := id h
  have hT := hB.2.1.1
  have hn := ok.1.2
  have e : (nI s.n).toInt = s.n := nI_int (by omega)
  have l0 : x < 0 ↔ x.toInt < 0 := i_lt
  refine K118 (B118_0 ?_)
  rw [hT.1, l0, i_le, e]
  refine ⟨fun z => K0 fun y => by unfold isN at y; omega, fun z => ⟨fun y => ?_, fun y => K0 fun w => by unfold isN at w; omega⟩⟩
  obtain ⟨n, hx⟩ : ∃ n : Nat, x.toInt = n := ⟨x.toInt.toNat, by omega⟩
  have hx' : x = nI n := by rw [iI_nI, ← hx, iI_of]
  have F : Fr [1, 2] σ (sI σ 1 0 x) := Fr.rfl.I (by simp)
  refine K1 n _ (by omega) hx' (cC_fr F fun y hy => by simp at hy; omega) (RC_tape h F (fun y hy => sI_of _ _ (by omega)) ⟨by rw [sI_at, hx'], fun i hi => ?_⟩)
  rw [sI_of _ _ (by omega)]; exact hT.2 i (by omega)
theorem k170 {x : Int32} (h : RR s σ) (ok : OkS s) (K0 : ¬ isN x (s.n + 1) → Q (some (.int (-1))) σ) (K1 : ∀ n σ', n ≤ s.n → x = nI n → CR σ σ' → RR (stT s s.b n) σ' → Q (some (.int x)) σ') : Cm Θ d 170 [.ref 124, .int x] σ Q := by
  have hT := h.1.1
  have hn := ok.1.2
  have e : (nI s.n).toInt = s.n := nI_int (by omega)
  have l0 : x < 0 ↔ x.toInt < 0 := i_lt
  refine K170 (B170_0 ?_)
  rw [hT.1, l0, i_le, e]
  refine ⟨fun z => K0 fun y => by unfold isN at y; omega, fun z => ⟨fun y => ?_, fun y => K0 fun w => by unfold isN at w; omega⟩⟩
  obtain ⟨n, hx⟩ : ∃ n : Nat, x.toInt = n := ⟨x.toInt.toNat, by omega⟩
  have hx' : x = nI n := by rw [iI_nI, ← hx, iI_of]
  have F : Fr [124, 125] σ (sI σ 124 1 x) := Fr.rfl.I (by simp)
  refine K1 n _ (by omega) hx' (cR_fr F fun y hy => by simp at hy; omega) (RR_tape h F (fun y hy => sI_of _ _ (by omega)) ⟨by rw [sI_at, hx'], fun i hi => ?_⟩)
  rw [sI_of _ _ (by omega)]; exact hT.2 i (by omega)
/-- fault(what) -/
def fltV (s : St) (x : Int32) : Int32 := if x = 0 then s.f else if x = 1 then s.p else -1
theorem k121 {x : Int32} (h : RC s σ) (K : Q (some (.int (fltV s x))) σ) : Cm Θ d 121 [.ref 0, .int x] σ Q := by
  obtain ⟨r, o, hB, kn⟩ := h
  obtain ⟨-, h1, h2⟩ := hB.2.1
  unfold fltV at K
  refine K121 (B121_0 ⟨fun z => ⟨fun y => ?_, fun y => ?_⟩, fun z => ?_⟩)
  · rw [if_neg z, if_neg y] at K; exact K
  · rw [if_neg z, if_pos y] at K; rw [h2]; exact K
  · rw [if_pos z] at K; rw [h1]; exact K
theorem k192 {x : Int32} (h : RR s σ) (K : Q (some (.int (fltV s x))) σ) : Cm Θ d 192 [.ref 124, .int x] σ Q := by
  obtain ⟨-, h1, h2⟩ := h.1
  unfold fltV at K
  refine K192 (B192_0 ⟨fun z => ⟨fun y => ?_, fun y => ?_⟩, fun z => ?_⟩)
  · rw [if_neg z, if_neg y] at K; exact K
  · rw [if_neg z, if_pos y] at K; rw [h2]; exact K
  · rw [if_pos z] at K; rw [h1]; exact K
/-- about(what) -/
def abtV (s : St) (x : Int32) : Int32 := if x.toInt = 0 then nI (bM s.B) else if x.toInt = 1 then nI (bN s.B) else if x.toInt = 2 then nI (bT s.B) else if x.toInt = 3 then nI s.D.length else if x.toInt = 4 then nI s.n else if x.toInt = 5 then nI s.S.k else if 10 ≤ x.toInt ∧ x.toInt - 10 < bN s.B then nI (bG s.B (x.toInt - 10).toNat) else -1
theorem x10 {x : Int32} (h : 10 ≤ x.toInt) : (x - 10).toInt = x.toInt - 10 := by
  have := i32_hi x
  rw [← iI_of x, show (10 : Int32) = iI 10 from rfl, iI_sub, iI_toInt (by omega) (by omega), iI_toInt (by omega) (by omega)]
theorem k154 {x : Int32} (h : RC s σ) (ok : OkS s) (K : Q (some (.int (abtV s x))) σ) : Cm Θ d 154 [.ref 0, .int x] σ Q := by
  obtain ⟨r, o, hB, kn⟩ := h
  obtain ⟨r1, r2, r3, r4⟩ := rB_r hB
  have h16 := bk16 ok
  have hlv := ok.2.1.1.2.1
  obtain ⟨⟨h0, h0', h0'', h04⟩, hT, ⟨bk, nw⟩, lw, ac, xc, z⟩ := hB
  have ho := lw.1
  have i10 : x < 10 ↔ x.toInt < 10 := i_lt
  unfold abtV at K
  refine K154 (B154_0 ?_)
  rw [r1, h04, i10]
  refine ⟨fun q => ⟨fun y => ?_, fun y => ⟨r2, r3, ?_⟩⟩, fun q => ⟨r2, r3, ?_⟩, fun q => ⟨r2, r3, ?_⟩, fun q => ⟨r2, r3, ?_⟩, fun q => ?_, fun q => ?_, fun q => ⟨by omega, o_s ho, ?_⟩⟩
  · rw [if_neg (by omega), if_neg (by omega), if_neg (by omega), if_neg (by omega), if_neg (by omega), if_neg (by omega), if_neg (by omega)] at K; exact K
  · rw [bk.2.2.1.1, i_le, x10 (by omega), nI_int (by omega)]
    refine ⟨fun w => ?_, fun w => ⟨r2, r3, ?_⟩⟩
    · rw [if_neg (by omega), if_neg (by omega), if_neg (by omega), if_neg (by omega), if_neg (by omega), if_neg (by omega), if_neg (by omega)] at K; exact K
    · have hx := x10 (x := x) (by omega)
      have hc : (x - 10).toNatClampNeg = (x.toInt - 10).toNat := by
        show (x - 10).toInt.toNat = _
        rw [hx]
      rw [if_neg (by omega), if_neg (by omega), if_neg (by omega), if_neg (by omega), if_neg (by omega), if_neg (by omega), if_pos (by omega)] at K
      rw [hc, bk.2.2.1.2.2.2.1 _ (by omega)]
      exact ⟨in_of (by omega) (by omega), K⟩
  · rw [if_pos q] at K; rw [bk.2.1.1]; exact K
  · rw [if_neg (by omega), if_pos q] at K; rw [bk.2.2.1.1]; exact K
  · rw [if_neg (by omega), if_neg (by omega), if_pos q] at K; rw [bk.2.2.2.1]; exact K
  · rw [if_neg (by omega), if_neg (by omega), if_neg (by omega), if_pos q] at K; rw [ac.1.1]; exact K
  · rw [if_neg (by omega), if_neg (by omega), if_neg (by omega), if_neg (by omega), if_pos q] at K; rw [hT.1.1]; exact K
  · rw [if_neg (by omega), if_neg (by omega), if_neg (by omega), if_neg (by omega), if_neg (by omega), if_pos q] at K; rw [lw.2.1]; exact K
theorem k285 {x : Int32} (h : RR s σ) (ok : OkS s) (K : Q (some (.int (abtV s x))) σ) : Cm Θ (d + 1) 285 [.ref 124, .int x] σ Q := by
  have h16 := bk16 ok
  have hlv := ok.2.1.1.2.1
  obtain ⟨⟨⟨t1, -⟩, -⟩, bk, nw, lw, ac, xc⟩ := h
  have i10 : x < 10 ↔ x.toInt < 10 := i_lt
  unfold abtV at K
  have tab : ¬ (10 ≤ x.toInt ∧ x.toInt - 10 < bN s.B) → (((x.toInt < 0 ∨ 5 < x.toInt) → Q (some (.int (-1))) σ) ∧ (x.toInt = 0 → Q (some (.int (σ.1 124 37))) σ) ∧ (x.toInt = 1 → Q (some (.int (σ.1 124 38))) σ) ∧ (x.toInt = 2 → Q (some (.int (σ.1 124 39))) σ) ∧ (x.toInt = 3 → Q (some (.int (σ.1 124 78))) σ) ∧ (x.toInt = 4 → Q (some (.int (σ.1 124 1))) σ) ∧ (x.toInt = 5 → Q (some (.int (σ.1 124 70))) σ)) := fun hno => by
    refine ⟨fun q => ?_, fun q => ?_, fun q => ?_, fun q => ?_, fun q => ?_, fun q => ?_, fun q => ?_⟩
    · rw [if_neg (by omega), if_neg (by omega), if_neg (by omega), if_neg (by omega), if_neg (by omega), if_neg (by omega), if_neg hno] at K; exact K
    · rw [if_pos q] at K; rw [bk.1.1]; exact K
    · rw [if_neg (by omega), if_pos q] at K; rw [bk.2.1.1]; exact K
    · rw [if_neg (by omega), if_neg (by omega), if_pos q] at K; rw [bk.2.2.1]; exact K
    · rw [if_neg (by omega), if_neg (by omega), if_neg (by omega), if_pos q] at K; rw [ac.1.1]; exact K
    · rw [if_neg (by omega), if_neg (by omega), if_neg (by omega), if_neg (by omega), if_pos q] at K; rw [t1]; exact K
    · rw [if_neg (by omega), if_neg (by omega), if_neg (by omega), if_neg (by omega), if_neg (by omega), if_pos q] at K; rw [lw.1]; exact K
  refine K285 (B285_0 ?_)
  rw [i10]
  refine ⟨fun q => tab (by omega), fun q => ?_⟩
  refine c200 bk.2.1.1 (by omega) ⟨_, rfl, ?_⟩
  have hx := x10 (x := x) (by omega)
  refine ⟨fun z => tab fun y => ?_, fun z => ?_⟩
  · rw [b01_0] at z
    have : dP (isN (x - 10) (bN s.B)) = true := by
      unfold dP; rw [@decide_eq_true_iff _ (Classical.propDecidable _)]; exact ⟨by rw [hx]; omega, by rw [hx]; exact y.2⟩
    rw [this] at z; cases z
  · rw [b01_n] at z
    unfold dP at z
    rw [@decide_eq_true_iff _ (Classical.propDecidable _)] at z
    obtain ⟨z1, z2⟩ := z
    rw [hx] at z1 z2
    have hc : (x - 10).toNatClampNeg = (x.toInt - 10).toNat := by
      show (x - 10).toInt.toNat = _
      rw [hx]
    rw [if_neg (by omega), if_neg (by omega), if_neg (by omega), if_neg (by omega), if_neg (by omega), if_neg (by omega), if_pos (by omega)] at K
    rw [hc, bk.2.1.2.2.2.1 _ (by omega)]
    exact ⟨in_of (by rw [hx]; omega) (by rw [hx]; omega), K⟩
end tap
