/-! THE CALLS: acts, the class -/
def stQ (s : St) (B : Bk) (lv : Nat) (D U : List Ac) : St := (s.1, (B, lv, s.n0, s.nm, s.nw), s.S, (D, U), s.x)
def psh (D : List Ac) (a : Ac) : List Ac := a :: (if D.length = 60 then D.dropLast else D)
def apA (k c v : Nat) (B : Bk) : Bk := if k = 0 then setN B (c + 1) else if k = 1 then setT B c (decide (v = 1)) else setG B c v
theorem fwA_ap (a : Ac) (B : Bk) : fwA a B = apA a.1 a.2.1 a.2.2.2 B := rfl
theorem psh_len {D : List Ac} {a : Ac} (h : D.length ≤ 60) : (psh D a).length ≤ 60 := by
  unfold psh
  split
  · rename_i q
    rw [List.length_cons, List.length_dropLast, q]; omega
  · rw [List.length_cons]; omega
theorem psh_dn {n0 : Nat} {D : List Ac} {a : Ac} {B : Bk} (h : DnA n0 D (bwA a B)) (ha : aftA n0 a B) : DnA n0 (psh D a) B := by
  unfold psh
  split
  · exact ⟨ha, DnA_drop h⟩
  · exact ⟨ha, h⟩
/-- a book after an act, or before it -/
theorem set_ok {n0 lv : Nat} {B B' : Bk} (hk : BkOk lv B) (ht : TdOk n0 B) (hM : bM B' = bM B) (hN : n0 ≤ bN B' ∧ bN B' ≤ lv) (hc : ∀ m, bCt B' m = true → m < bM B) (hg : ∀ c, c < lv → bG B' c ≤ 240) (e : bTp B' = bTp B ∧ bJ B' = bJ B ∧ bY B' = bY B ∧ bW B' = bW B ∧ bS B' = bS B ∧ bT B' = bT B ∧ bA B' = bA B ∧ bU B' = bU B) : BkOk lv B' ∧ TdOk n0 B' := by
  obtain ⟨e1, e2, e3, e4, e5, e6, e7, e8⟩ := e
  obtain ⟨k1, ⟨k2, k3⟩, k4, k5, k6, k7, k8⟩ := hk
  refine ⟨⟨by rw [hM]; exact k1, ⟨hN.2, k3⟩, by rw [hM, e1]; exact k4, by rw [hM]; exact hc, fun c hcl => ?_, by rw [e6]; exact k7, fun t htt => ?_⟩, hN.1, by rw [e6, e7, e8]; exact ht.2⟩
  · have := k6 c hcl
    rw [hM, e1, e2, e3, e4, e5]
    exact ⟨this.1, this.2.1, hg c hcl, this.2.2.2⟩
  · rw [e6] at htt
    rw [e7, e8]
    have := ht.2 t htt
    exact ⟨by omega, by omega⟩
theorem bw_ok {n0 lv : Nat} {a : Ac} {B : Bk} (h : aftA n0 a B) (hk : BkOk lv B) (ht : TdOk n0 B) : BkOk lv (bwA a B) ∧ TdOk n0 (bwA a B) := by
  obtain ⟨k, c, v, w⟩ := a
  have kb := hk
  obtain ⟨k1, ⟨k2, k3⟩, k4, k5, k6, k7, k8⟩ := kb
  rcases h with ⟨h1, h2, h3⟩ | ⟨h1, h2, h3, h4⟩ | ⟨h1, h2, h3, h4⟩
  · have h1 : k = 0 := h1
    have h2 : bN B = c + 1 := h2
    have h3 : n0 ≤ c := h3
    subst h1
    exact set_ok (B' := setN B c) hk ht rfl ⟨h3, by show c ≤ lv; omega⟩ k5 (fun c hc => (k6 c hc).2.2.1) ⟨rfl, rfl, rfl, rfl, rfl, rfl, rfl, rfl⟩
  · have h1 : k = 1 := h1
    have h2 : c < bM B := h2
    subst h1
    refine set_ok (B' := setT B c (decide (v = 1))) hk ht rfl ⟨ht.1, k2⟩ (fun m hm => ?_) (fun c hc => (k6 c hc).2.2.1) ⟨rfl, rfl, rfl, rfl, rfl, rfl, rfl, rfl⟩
    have hm : upN (bCt B) c (decide (v = 1)) m = true := hm
    by_cases q : m = c
    · rw [q]; exact h2
    · rw [upN_ne q] at hm; exact k5 m hm
  · have h1 : k = 2 := h1
    have h3 : v ≤ 240 := h3
    subst h1
    refine set_ok (B' := setG B c v) hk ht rfl ⟨ht.1, k2⟩ k5 (fun i hi => ?_) ⟨rfl, rfl, rfl, rfl, rfl, rfl, rfl, rfl⟩
    show upN (bG B) c v i ≤ 240
    by_cases q : i = c
    · rw [q, upN_at]; exact h3
    · rw [upN_ne q]; exact (k6 i hi).2.2.1
theorem fw_ok {n0 lv : Nat} {a : Ac} {B : Bk} (h : preA n0 lv a B) (hk : BkOk lv B) (ht : TdOk n0 B) : BkOk lv (fwA a B) ∧ TdOk n0 (fwA a B) := by
  obtain ⟨k, c, v, w⟩ := a
  have kb := hk
  obtain ⟨k1, ⟨k2, k3⟩, k4, k5, k6, k7, k8⟩ := kb
  rcases h with ⟨h1, h2, h3, h4⟩ | ⟨h1, h2, h3, h4⟩ | ⟨h1, h2, h3, h4⟩
  · have h1 : k = 0 := h1
    have h3 : n0 ≤ c := h3
    have h4 : c < lv := h4
    subst h1
    exact set_ok (B' := setN B (c + 1)) hk ht rfl ⟨by show n0 ≤ c + 1; omega, by show c + 1 ≤ lv; omega⟩ k5 (fun c hc => (k6 c hc).2.2.1) ⟨rfl, rfl, rfl, rfl, rfl, rfl, rfl, rfl⟩
  · have h1 : k = 1 := h1
    have h2 : c < bM B := h2
    subst h1
    refine set_ok (B' := setT B c (decide (w = 1))) hk ht rfl ⟨ht.1, k2⟩ (fun m hm => ?_) (fun c hc => (k6 c hc).2.2.1) ⟨rfl, rfl, rfl, rfl, rfl, rfl, rfl, rfl⟩
    have hm : upN (bCt B) c (decide (w = 1)) m = true := hm
    by_cases q : m = c
    · rw [q]; exact h2
    · rw [upN_ne q] at hm; exact k5 m hm
  · have h1 : k = 2 := h1
    have h3 : w ≤ 240 := h3
    subst h1
    refine set_ok (B' := setG B c w) hk ht rfl ⟨ht.1, k2⟩ k5 (fun i hi => ?_) ⟨rfl, rfl, rfl, rfl, rfl, rfl, rfl, rfl⟩
    show upN (bG B) c w i ≤ 240
    by_cases q : i = c
    · rw [q, upN_at]; exact h3
    · rw [upN_ne q]; exact (k6 i hi).2.2.1
theorem bx_same {n0 : Nat} {B B' X : Bk} (h : BxOk n0 B X) (e : bM B' = bM B ∧ bNm B' = bNm B ∧ bTp B' = bTp B ∧ bT B' = bT B ∧ bA B' = bA B ∧ bU B' = bU B) : BxOk n0 B' X := by
  obtain ⟨e1, e2, e3, e4, e5, e6⟩ := e
  obtain ⟨h1, h2, h3, h4, h5, h6, h7⟩ := h
  exact ⟨h1.trans e1.symm, h2.trans e2.symm, h3.trans e3.symm, h4.trans e4.symm, h5.trans e5.symm, h6.trans e6.symm, h7⟩
theorem ap_same (k c v : Nat) (B : Bk) : bM (apA k c v B) = bM B ∧ bNm (apA k c v B) = bNm B ∧ bTp (apA k c v B) = bTp B ∧ bT (apA k c v B) = bT B ∧ bA (apA k c v B) = bA B ∧ bU (apA k c v B) = bU B := by
  unfold apA
  split
  · exact ⟨rfl, rfl, rfl, rfl, rfl, rfl⟩
  · split <;> exact ⟨rfl, rfl, rfl, rfl, rfl, rfl⟩
theorem bw_same (a : Ac) (B : Bk) : bM (bwA a B) = bM B ∧ bNm (bwA a B) = bNm B ∧ bTp (bwA a B) = bTp B ∧ bT (bwA a B) = bT B ∧ bA (bwA a B) = bA B ∧ bU (bwA a B) = bU B := by
  unfold bwA
  split
  · exact ⟨rfl, rfl, rfl, rfl, rfl, rfl⟩
  · split <;> exact ⟨rfl, rfl, rfl, rfl, rfl, rfl⟩
/-- a state with another book of the same names -/
theorem ok_stQ {s : St} {B : Bk} {lv : Nat} {D U : List Ac} (ok : OkS s) (hk : BkOk lv B ∧ TdOk s.n0 B) (e : bM B = bM s.B ∧ bNm B = bNm s.B ∧ bTp B = bTp s.B ∧ bT B = bT s.B ∧ bA B = bA s.B ∧ bU B = bU s.B) (hl : D.length + U.length ≤ 60) (hD : DnA s.n0 D B) (hU : UnA s.n0 lv U B) : OkS (stQ s B lv D U) :=
  ⟨ok.1, ⟨hk.1, hk.2, ⟨fun i hi => by
    have hi : i < bM B := hi
    show bNm B i = jJ ((s.nm i : Nat) : Int) ∧ s.nm i < 2 ^ 64
    rw [e.2.1]; exact ok.2.1.2.2.1.1 i (by rw [← e.1]; exact hi), fun i k hi hk' => by
    have hi : i < bM B := hi
    have hk' : k < bM B := hk'
    exact ok.2.1.2.2.1.2 i k (by rw [← e.1]; exact hi) (by rw [← e.1]; exact hk')⟩, fun m hm => by
    show s.nw m ≤ bTp B m
    rw [e.2.2.1]; exact ok.2.1.2.2.2 m (by rw [← e.1]; exact hm)⟩, by show LwOk (bM B) s.S; rw [e.1]; exact ok.2.2.1, ⟨hl, hD, hU⟩, fun i hi hx => bx_same (ok.2.2.2.2 i hi hx) e⟩
section acts
variable {Θ : Th} {d : Nat} {σ : Mem} {Q : Po} {s : St}
theorem RB_set {r o lv : Nat} {B : Bk} {D U : List Ac} {σ' : Mem} {ls : List Nat} (h : RB s r o σ) (f : Fr ls σ σ') (hr : σ'.2.2 0 = σ.2.2 0) (hl : ∀ x, x ∈ ls → x = 0 ∨ (3 ≤ x ∧ x ≤ 11) ∨ (r ≤ x ∧ x ≤ r + 9) ∨ (78 ≤ x ∧ x ≤ 82) ∨ (83 ≤ x ∧ x ≠ 113)) (bk : BkC r lv B σ') (nw : NwC r B s.nw σ') (ac : AcC D U σ') : RB (stQ s B lv D U) r o σ' := by
  obtain ⟨h0, h1, ⟨h2, h3⟩, h4, h5, h6, h7⟩ := h
  have hr12 : r = 12 ∨ r = 22 := h2.1
  have ho : o = 32 ∨ o = 39 := h4.1
  exact ⟨by rw [hr]; exact h0, TC_fr h1 f (fun q => by have := hl _ q; omega) (fun q => by have := hl _ q; omega), ⟨bk, nw⟩, LwS_fr h4 f fun x x1 x2 q => by have := hl _ q; omega, ac, XC_fr h6 f fun x x1 x2 q => by have := hl _ q; omega, by rw [(f 113 (fun q => by have := hl _ q; omega)).1]; exact h7⟩
theorem c5 {r lv k c v : Nat} {B : Bk} (hB : BkC r lv B σ) (hk : k ≤ 2) (hc : (k = 1 → c < 6 ∧ v ≤ 1) ∧ (k = 2 → c < 16)) (K : ∀ σ', Fr [r, r + 5] σ σ' → BkC r lv (apA k c v B) σ' → Q none σ') : Cm Θ d 5 [.ref r, .int (nI k), .int (nI c), .int (nI v)] σ Q := by
  have r4 := hB.1
  have r3 := bk_s r4
  obtain ⟨b0, ⟨a1, a2, a3, a4⟩, ⟨b1, b2, b3, b4, b5, b6⟩, c1, c2, c3⟩ := hB
  refine K5 (B5_0 r3 ?_)
  rw [nI_int (show k < 2147483648 by omega)]
  refine ⟨fun z => ?_, fun z => ?_, fun z z' => ?_⟩
  · have hk0 : k = 0 := by omega
    refine K _ (Fr.rfl.I (by simp)) ?_
    rw [hk0, nI_1]
    show BkC r lv (setN B (c + 1)) _
    have e : ∀ x, x ≠ r → (sI σ r 4 (nI (c + 1))).1 x = σ.1 x := fun x hx => sI_ne hx
    unfold BkC rowI
    rw [e (r + 2) (by omega), e (r + 3) (by omega), e (r + 4) (by omega), e (r + 5) (by omega), e (r + 6) (by omega), e (r + 7) (by omega), e (r + 8) (by omega), e (r + 9) (by omega), sI_at, sI_of _ _ (by omega), sI_of _ _ (by omega), sI_of _ _ (by omega)]
    exact ⟨b0, ⟨a1, a2, a3, a4⟩, ⟨rfl, b2, b3, b4, b5, b6⟩, c1, c2, c3⟩
  · have hk1 : k = 1 := by omega
    obtain ⟨hc6, hv⟩ := hc.1 hk1
    refine K _ (Fr.rfl.I (by simp)) ?_
    rw [hk1]
    show BkC r lv (setT B c (decide (v = 1))) _
    have eX : ((σ.1 r 3) &&& (((1 : Int32) <<< (nI c &&& 31)) ^^^ (-1))) ||| (nI v <<< (nI c &&& 31)) = sX (upN (bCt B) c (decide (v = 1))) := by
      rw [a4, sX_1 (by omega), sX_dif]
      by_cases q : v = 1
      · rw [q, show nI 1 = (1 : Int32) from rfl, sX_1 (by omega), sX_or]
        refine sX_congr fun j _ => ?_
        by_cases w : j = c
        · rw [w, upN_at]; simp
        · rw [upN_ne w]; simp [w]
      · have q0 : v = 0 := by omega
        rw [q0, show nI 0 <<< (nI c &&& 31) = (0 : Int32) by
          have : ∀ x : Fin 6, nI 0 <<< (nI x.val &&& 31) = (0 : Int32) := by decide +kernel
          exact this ⟨c, hc6⟩, show ∀ x : Int32, x ||| 0 = x from fun x => Int32.or_zero]
        refine sX_congr fun j _ => ?_
        by_cases w : j = c
        · rw [w, upN_at]; simp
        · rw [upN_ne w]; simp [w]
    rw [eX]
    have e : ∀ y x, x ≠ r → (sI σ r 3 y).1 x = σ.1 x := fun y x hx => sI_ne hx
    unfold BkC rowI
    rw [e _ (r + 2) (by omega), e _ (r + 3) (by omega), e _ (r + 4) (by omega), e _ (r + 5) (by omega), e _ (r + 6) (by omega), e _ (r + 7) (by omega), e _ (r + 8) (by omega), e _ (r + 9) (by omega), sI_at, sI_of _ _ (by omega), sI_of _ _ (by omega), sI_of _ _ (by omega)]
    exact ⟨b0, ⟨a1, a2, a3, rfl⟩, ⟨b1, b2, b3, b4, b5, b6⟩, c1, c2, c3⟩
  · have hk2 : k = 2 := by omega
    have hc16 := hc.2 hk2
    refine ⟨vp_in_nI (by omega) (by decide), K _ (Fr.rfl.I (by simp)) ?_⟩
    rw [hk2, nI_clamp (by omega)]
    show BkC r lv (setG B c v) _
    have e : ∀ x, x ≠ r + 5 → (sI σ (r + 5) c (nI v)).1 x = σ.1 x := fun x hx => sI_ne hx
    unfold BkC rowI
    rw [e r (by omega), e (r + 2) (by omega), e (r + 3) (by omega), e (r + 4) (by omega), e (r + 6) (by omega), e (r + 7) (by omega), e (r + 8) (by omega), e (r + 9) (by omega)]
    refine ⟨b0, ⟨a1, a2, a3, a4⟩, ⟨b1, b2, b3, fun i hi => ?_, b5, b6⟩, c1, c2, c3⟩
    show (sI σ (r + 5) c (nI v)).1 (r + 5) i = nI (upN (bG B) c v i)
    by_cases w : i = c
    · rw [w, sI_at, upN_at]
    · rw [sI_of _ _ (by omega), upN_ne w]; exact b4 i hi
theorem Ac0 {D : List Ac} {a : Ac} (h : rwD (a :: D) σ) : σ.1 79 D.length = nI a.1 ∧ σ.1 80 D.length = nI a.2.1 ∧ σ.1 81 D.length = nI a.2.2.1 ∧ σ.1 82 D.length = nI a.2.2.2 := h.1
theorem rwD_get {σ σ' : Mem} {n : Nat} (e : ∀ l, 79 ≤ l → l ≤ 82 → ∀ i, i < n → σ'.1 l i = σ.1 l i) : ∀ {D : List Ac}, D.length ≤ n → rwD D σ → rwD D σ'
  | [], _, _ => True.intro
  | a :: t, hl, h => by
    rw [List.length_cons] at hl
    exact ⟨by rw [e 79 (by omega) (by omega) _ (by omega), e 80 (by omega) (by omega) _ (by omega), e 81 (by omega) (by omega) _ (by omega), e 82 (by omega) (by omega) _ (by omega)]; exact h.1, rwD_get e (by omega) h.2⟩
theorem rwD_shift {σ σ' : Mem} (e : ∀ l, 79 ≤ l → l ≤ 82 → ∀ i, i < 59 → σ'.1 l i = σ.1 l (i + 1)) : ∀ {D : List Ac}, D.length ≤ 60 → rwD D σ → rwD D.dropLast σ'
  | [], _, _ => True.intro
  | [_], _, _ => True.intro
  | a :: b :: t, hl, h => by
    rw [List.length_cons, List.length_cons] at hl
    show rwD (a :: (b :: t).dropLast) σ'
    have hh := h.1
    have el : (b :: t).dropLast.length = t.length := by rw [List.length_dropLast, List.length_cons]; omega
    have el2 : (b :: t).length = t.length + 1 := rfl
    rw [el2] at hh
    refine ⟨?_, rwD_shift e (by rw [List.length_cons]; omega) h.2⟩
    rw [el, e 79 (by omega) (by omega) _ (by omega), e 80 (by omega) (by omega) _ (by omega), e 81 (by omega) (by omega) _ (by omega), e 82 (by omega) (by omega) _ (by omega)]
    exact hh
theorem cpI_is {τ : Mem} {r : Nat} : (∀ i, i < 59 → (cpI τ r 1 r 0 59).1 r i = τ.1 r (i + 1)) ∧ (∀ l, l ≠ r → (cpI τ r 1 r 0 59).1 l = τ.1 l) ∧ Fr [r] τ (cpI τ r 1 r 0 59) := by
  have h1 : ∀ l, l ≠ r → (cpI τ r 1 r 0 59).1 l = τ.1 l := fun l hl => by funext b; simp [cpI, hl]
  refine ⟨fun i hi => ?_, h1, fun l hl => ⟨h1 l (by simp at hl; exact hl), rfl, rfl⟩⟩
  show (if r = r then va_cpy (τ.1 r) (τ.1 r) (1 : Int32).toNatClampNeg (0 : Int32).toNatClampNeg (59 : Int32).toNatClampNeg i else τ.1 r i) = _
  rw [if_pos rfl]
  have e1 : (1 : Int32).toNatClampNeg = 1 := by decide
  have e0 : (0 : Int32).toNatClampNeg = 0 := by decide
  have e59 : (59 : Int32).toNatClampNeg = 59 := by decide
  rw [e1, e0, e59]
  rw [pk_cpy_in (by omega) (by omega), show 1 + (i - 0) = i + 1 by omega]
theorem k2 {r n0 : Nat} (hr : shq r = (20, n0)) (h60 : 60 ≤ n0) (K : Q none (cpI σ r 1 r 0 59)) : Cm Θ (d + 1) 2 [.ref r] σ Q := by
  have e1 : (1 : Int32).toNatClampNeg = 1 := by decide
  have e0 : (0 : Int32).toNatClampNeg = 0 := by decide
  have e59 : (59 : Int32).toNatClampNeg = 59 := by decide
  refine K2 (n0 := n0) (B2_0 hr ⟨⟨by decide, by decide, by decide, ?_, ?_⟩, K⟩)
  · rw [e1, e59]; omega
  · rw [e0, e59]; omega
theorem k1w {D : List Ac} {a : Ac} {m : Nat} (hm : m < 60) (h0 : σ.1 78 0 = nI m) (hD : D.length = m) (hrw : rwD D σ) (K : ∀ σ', Fr [78, 79, 80, 81, 82] σ σ' → AcC (a :: D) [] σ' → Q none σ') :
    Q none (sI (sI (sI (sI (sI (sI σ 79 m (nI a.1)) 80 m (nI a.2.1)) 81 m (nI a.2.2.1)) 82 m (nI a.2.2.2)) 78 0 (nI (m + 1))) 78 1 (nI (m + 1))) := by
  refine K _ ((((((Fr.rfl.I (by simp)).I (by simp)).I (by simp)).I (by simp)).I (by simp)).I (by simp)) ⟨⟨?_, ?_⟩, ⟨?_, rwD_get (n := m) (fun l h1 h2 i hi => ?_) (by omega) hrw⟩, True.intro⟩
  · rw [sI_of _ _ (by omega), sI_at]; show nI (m + 1) = nI ((a :: D).length); rw [List.length_cons, hD]
  · rw [sI_at]; show nI (m + 1) = nI ((a :: D).length + 0); rw [List.length_cons, hD]
  · rw [hD]
    refine ⟨?_, ?_, ?_, ?_⟩
    · rw [sI_of _ _ (by omega), sI_of _ _ (by omega), sI_of _ _ (by omega), sI_of _ _ (by omega), sI_of _ _ (by omega), sI_at]
    · rw [sI_of _ _ (by omega), sI_of _ _ (by omega), sI_of _ _ (by omega), sI_of _ _ (by omega), sI_at]
    · rw [sI_of _ _ (by omega), sI_of _ _ (by omega), sI_of _ _ (by omega), sI_at]
    · rw [sI_of _ _ (by omega), sI_of _ _ (by omega), sI_at]
  · rw [sI_of _ _ (by omega), sI_of _ _ (by omega), sI_of _ _ (by omega), sI_of _ _ (by omega), sI_of _ _ (by omega), sI_of _ _ (by omega)]
theorem k1 {D U : List Ac} {a : Ac} (h : AcC D U σ) (hl : D.length ≤ 60) (K : ∀ σ', Fr [78, 79, 80, 81, 82] σ σ' → AcC (psh D a) [] σ' → Q none σ') : Cm Θ (d + 2) 1 [.ref 78, .int (nI a.1), .int (nI a.2.1), .int (nI a.2.2.1), .int (nI a.2.2.2)] σ Q := by
  obtain ⟨⟨h0, h1⟩, hd, hu⟩ := h
  refine K1 (B1_0 ⟨fun q => ?_, fun q => ?_⟩)
  · have hm : D.length < 60 := by
      rcases Nat.lt_or_ge D.length 60 with w | w
      · exact w
      · exact absurd (by rw [h0, show D.length = 60 by omega]; rfl) q
    have e : psh D a = a :: D := by unfold psh; rw [if_neg (by omega)]
    rw [e] at K
    have v := vp_in_nI (show D.length < 60 from hm) (by decide)
    have g : ∀ l i x, l ≠ 78 → (sI σ l i x).1 78 0 = nI D.length := fun l i x hl => by rw [sI_of _ _ (by omega)]; exact h0
    have e2 : ∀ τ l i x, l ≠ 78 → (sI τ l i x).1 78 0 = τ.1 78 0 := fun τ l i x hl => sI_of _ _ (by omega)
    rw [h0]
    rw [e2 _ 79 _ _ (by decide), h0, e2 _ 80 _ _ (by decide), e2 _ 79 _ _ (by decide), h0, e2 _ 81 _ _ (by decide), e2 _ 80 _ _ (by decide), e2 _ 79 _ _ (by decide), h0, e2 _ 82 _ _ (by decide), e2 _ 81 _ _ (by decide), e2 _ 80 _ _ (by decide), e2 _ 79 _ _ (by decide), h0, nI_clamp (by omega), nI_1, sI_at]
    exact ⟨v, v, v, v, k1w hm h0 rfl hd K⟩
  · have hm : D.length = 60 := by
      rw [h0] at q
      have := congrArg Int32.toInt q
      rw [nI_int (by omega)] at this
      have e : (60 : Int32).toInt = 60 := by decide
      omega
    have e : psh D a = a :: D.dropLast := by unfold psh; rw [if_pos hm]
    rw [e] at K
    obtain ⟨a1, a2, a3⟩ := cpI_is (τ := σ) (r := 79)
    obtain ⟨b1, b2, b3⟩ := cpI_is (τ := cpI σ 79 1 79 0 59) (r := 80)
    obtain ⟨c1, c2, c3⟩ := cpI_is (τ := cpI (cpI σ 79 1 79 0 59) 80 1 80 0 59) (r := 81)
    obtain ⟨d1, d2, d3⟩ := cpI_is (τ := cpI (cpI (cpI σ 79 1 79 0 59) 80 1 80 0 59) 81 1 81 0 59) (r := 82)
    refine k2 (d := d) (n0 := 60) rfl (by omega) ⟨rfl, k2 (d := d) (n0 := 60) rfl (by omega) ⟨rfl, k2 (d := d) (n0 := 60) rfl (by omega) ⟨rfl, k2 (d := d) (n0 := 60) rfl (by omega) ⟨rfl, ?_⟩⟩⟩⟩
    obtain ⟨τ, hτ⟩ : ∃ τ, τ = cpI (cpI (cpI (cpI σ 79 1 79 0 59) 80 1 80 0 59) 81 1 81 0 59) 82 1 82 0 59 := ⟨_, rfl⟩
    rw [← hτ] at d1 d2 d3 ⊢
    have fr : Fr [78, 79, 80, 81, 82] σ τ := (a3.mono (by intro x hx; simp at hx; simp; omega)).tr ((b3.mono (by intro x hx; simp at hx; simp; omega)).tr ((c3.mono (by intro x hx; simp at hx; simp; omega)).tr (d3.mono (by intro x hx; simp at hx; simp; omega))))
    have g0 : τ.1 78 0 = nI 60 := by rw [d2 78 (by decide), c2 78 (by decide), b2 78 (by decide), a2 78 (by decide), h0, hm]
    have sh : ∀ l, 79 ≤ l → l ≤ 82 → ∀ i, i < 59 → τ.1 l i = σ.1 l (i + 1) := fun l l1 l2 i hi => by
      rcases (show l = 79 ∨ l = 80 ∨ l = 81 ∨ l = 82 by omega) with w | w | w | w <;> subst w
      · rw [d2 79 (by decide), c2 79 (by decide), b2 79 (by decide)]; exact a1 i hi
      · rw [d2 80 (by decide), c2 80 (by decide), b1 i hi, a2 80 (by decide)]
      · rw [d2 81 (by decide), c1 i hi, b2 81 (by decide), a2 81 (by decide)]
      · rw [d1 i hi, c2 82 (by decide), b2 82 (by decide), a2 82 (by decide)]
    have hd2 := rwD_shift sh hl hd
    have e59 : nI 60 - 1 = nI 59 := by decide
    have g1 : (sI τ 78 0 (nI 59)).1 78 0 = nI 59 := sI_at _ _ _ _
    have v : vp_in (nI 59) 60 := vp_in_nI (by omega) (by decide)
    have e2 : ∀ τ l i x, l ≠ 78 → (sI τ l i x).1 78 0 = τ.1 78 0 := fun τ l i x hl => sI_of _ _ (by omega)
    try dsimp only
    rw [g0, e59, g1, e2 _ 79 _ _ (by decide), g1, e2 _ 80 _ _ (by decide), e2 _ 79 _ _ (by decide), g1, e2 _ 81 _ _ (by decide), e2 _ 80 _ _ (by decide), e2 _ 79 _ _ (by decide), g1, e2 _ 82 _ _ (by decide), e2 _ 81 _ _ (by decide), e2 _ 80 _ _ (by decide), e2 _ 79 _ _ (by decide), g1, nI_clamp (by omega), nI_1, sI_at]
    refine ⟨v, v, v, v, ?_⟩
    have hl2 : D.dropLast.length = 59 := by rw [List.length_dropLast, hm]
    refine k1w (m := 59) (by omega) g1 hl2 (rwD_get (n := 60) (fun l l1 l2 i hi => by rw [sI_of _ _ (by omega)]) (by omega) hd2) fun σ' f' c' => K σ' ((fr.I (by simp)).tr f') c'
theorem k167 {r o lv k c v w : Nat} {U : List Ac} {B' : Bk} (hB : RB s r o σ) (hr : σ.2.2 0 2 = r) (ha : AcC s.D s.U σ) (hl : s.D.length ≤ 60) (hk : k ≤ 2) (hc : (k = 1 → c < 6 ∧ w ≤ 1) ∧ (k = 2 → c < 16)) (bk : BkC r lv B' σ) (nw : NwC r B' s.nw σ)
    (K : ∀ σ', CC σ σ' → RC (stQ s (apA k c w B') lv (psh s.D (k, c, v, w)) []) σ' → Q none σ') : Cm Θ (d + 3) 167 [.ref 0, .int (nI k), .int (nI c), .int (nI v), .int (nI w)] σ Q := by
  have r4 := bk.1
  refine K167 (B167_0 (k1 (d := d) (a := (k, c, v, w)) ha hl fun s1 f1 a1 => ⟨rfl, ?_⟩))
  have bk1 := BkC_f2 bk f1 fun x x1 x2 q => by simp at q; omega
  have nw1 := NwC_fr nw f1 fun q => by simp at q; omega
  try dsimp only
  rw [(f1 0 (by decide)).2.2, hr]
  refine ⟨by omega, bk_s r4, c5 (d := d + 2) bk1 hk hc fun s2 f2 bk2 => ⟨rfl, ?_⟩⟩
  have F : Fr [0, r, r + 5, 78, 79, 80, 81, 82] σ (sI s2 0 17 0) := ((f1.mono (by intro x hx; simp at hx; simp; omega)).tr (f2.mono (by intro x hx; simp at hx; simp; omega))).I (by simp)
  have fz : Fr [0] s2 (sI s2 0 17 0) := Fr.rfl.I (by simp)
  have f2z : Fr [0, r, r + 5] s1 (sI s2 0 17 0) := (f2.mono (by intro x hx; simp at hx; simp; omega)).I (by simp)
  refine K _ (cC_fr F fun x hx => by simp at hx; omega) ⟨r, o, RB_set hB F ?_ (fun x hx => by simp at hx; omega) (BkC_f2 bk2 fz fun x x1 x2 q => by simp at q; omega) ?_ (AcC_fr a1 f2z fun x x1 x2 q => by simp at q; omega), Kn_0 (sI_at _ _ _ _)⟩
  · rw [sI_R, (f2 0 (by simp; omega)).2.2, (f1 0 (by decide)).2.2]
  · have nw2 := NwC_fr nw1 f2z fun q => by simp at q
    intro m hm
    rw [(ap_same k c w B').1] at hm
    exact nw2 m hm
end acts
