/-! THE STATE as values: the tape and the fault; the book; laws; acts; boxes -/
abbrev Ac : Type := Nat × Nat × Nat × Nat
def St : Type := ((Nat → Nat) × Nat × Int32 × Int32) × (Bk × Nat × Nat × (Nat → Nat) × (Nat → Nat)) × Lw × (List Ac × List Ac) × (Nat → Bool × Bk)
def St.b (s : St) : Nat → Nat := s.1.1
def St.n (s : St) : Nat := s.1.2.1
def St.f (s : St) : Int32 := s.1.2.2.1
def St.p (s : St) : Int32 := s.1.2.2.2
def St.B (s : St) : Bk := s.2.1.1
def St.lv (s : St) : Nat := s.2.1.2.1
def St.n0 (s : St) : Nat := s.2.1.2.2.1
def St.nm (s : St) : Nat → Nat := s.2.1.2.2.2.1
def St.nw (s : St) : Nat → Nat := s.2.1.2.2.2.2
def St.S (s : St) : Lw := s.2.2.1
def St.D (s : St) : List Ac := s.2.2.2.1.1
def St.U (s : St) : List Ac := s.2.2.2.1.2
def St.x (s : St) : Nat → Bool × Bk := s.2.2.2.2
/-! acts on a book -/
def setN (B : Bk) (n : Nat) : Bk := (B.1, (n, B.2.1.2), B.2.2)
def setT (B : Bk) (m : Nat) (v : Bool) : Bk := ((B.1.1, B.1.2.1, B.1.2.2.1, upN B.1.2.2.2 m v), B.2)
def setG (B : Bk) (c g : Nat) : Bk := (B.1, (B.2.1.1, B.2.1.2.1, B.2.1.2.2.1, upN B.2.1.2.2.2.1 c g, B.2.1.2.2.2.2), B.2.2)
def fwA (a : Ac) (B : Bk) : Bk := if a.1 = 0 then setN B (a.2.1 + 1) else if a.1 = 1 then setT B a.2.1 (decide (a.2.2.2 = 1)) else setG B a.2.1 a.2.2.2
def bwA (a : Ac) (B : Bk) : Bk := if a.1 = 0 then setN B a.2.1 else if a.1 = 1 then setT B a.2.1 (decide (a.2.2.1 = 1)) else setG B a.2.1 a.2.2.1
def aftA (n0 : Nat) (a : Ac) (B : Bk) : Prop := (a.1 = 0 ∧ bN B = a.2.1 + 1 ∧ n0 ≤ a.2.1) ∨ (a.1 = 1 ∧ a.2.1 < bM B ∧ a.2.2.1 + a.2.2.2 = 1 ∧ bCt B a.2.1 = decide (a.2.2.2 = 1)) ∨ (a.1 = 2 ∧ a.2.1 < bN B ∧ a.2.2.1 ≤ 240 ∧ bG B a.2.1 = a.2.2.2)
def preA (n0 lv : Nat) (a : Ac) (B : Bk) : Prop := (a.1 = 0 ∧ bN B = a.2.1 ∧ n0 ≤ a.2.1 ∧ a.2.1 < lv) ∨ (a.1 = 1 ∧ a.2.1 < bM B ∧ a.2.2.1 + a.2.2.2 = 1 ∧ bCt B a.2.1 = decide (a.2.2.1 = 1)) ∨ (a.1 = 2 ∧ a.2.1 < bN B ∧ a.2.2.2 ≤ 240 ∧ bG B a.2.1 = a.2.2.1)
def DnA (n0 : Nat) : List Ac → Bk → Prop
  | [], _ => True
  | a :: t, B => aftA n0 a B ∧ DnA n0 t (bwA a B)
def UnA (n0 lv : Nat) : List Ac → Bk → Prop
  | [], _ => True
  | a :: t, B => preA n0 lv a B ∧ UnA n0 lv t (fwA a B)
theorem upN_up {α : Type} {f : Nat → α} {k : Nat} {v w : α} (h : f k = w) : upN (upN f k v) k w = f := by
  funext i
  by_cases z : i = k
  · rw [z, upN_at, h]
  · rw [upN_ne z, upN_ne z]
theorem bk_back {n0 lv : Nat} {a : Ac} {B : Bk} (h : aftA n0 a B) (hN : bN B ≤ lv) (hg : ∀ c, c < bN B → bG B c ≤ 240) : preA n0 lv a (bwA a B) ∧ fwA a (bwA a B) = B := by
  obtain ⟨k, c, v, w⟩ := a
  rcases h with ⟨h1, h2, h3⟩ | ⟨h1, h2, h3, h4⟩ | ⟨h1, h2, h3, h4⟩
  · have h1 : k = 0 := h1
    have h2 : bN B = c + 1 := h2
    subst h1
    have e : bwA (0, c, v, w) B = setN B c := rfl
    rw [e]
    refine ⟨Or.inl ⟨rfl, rfl, h3, (by show c < lv; omega)⟩, ?_⟩
    show setN (setN B c) (c + 1) = B
    rw [← h2]; rfl
  · have h1 : k = 1 := h1
    have h3 : v + w = 1 := h3
    have h4 : bCt B c = decide (w = 1) := h4
    subst h1
    have e : bwA (1, c, v, w) B = setT B c (decide (v = 1)) := rfl
    rw [e]
    refine ⟨Or.inr (Or.inl ⟨rfl, h2, h3, (by show upN (bCt B) c _ c = _; rw [upN_at])⟩), ?_⟩
    show setT (setT B c _) c (decide (w = 1)) = B
    unfold setT
    have := upN_up (f := bCt B) (k := c) (v := decide (v = 1)) h4
    show ((B.1.1, B.1.2.1, B.1.2.2.1, upN (upN (bCt B) c (decide (v = 1))) c (decide (w = 1))), B.2) = B
    rw [this]; rfl
  · have h1 : k = 2 := h1
    have h4 : bG B c = w := h4
    subst h1
    have e : bwA (2, c, v, w) B = setG B c v := rfl
    rw [e]
    refine ⟨Or.inr (Or.inr ⟨rfl, h2, (by have h2 : c < bN B := h2; have := hg c h2; show w ≤ 240; omega), (by show upN (bG B) c v c = v; rw [upN_at])⟩), ?_⟩
    show setG (setG B c v) c w = B
    unfold setG
    show (B.1, (B.2.1.1, B.2.1.2.1, B.2.1.2.2.1, upN (upN (bG B) c v) c w, B.2.1.2.2.2.2), B.2.2) = B
    rw [upN_up h4]; rfl
theorem bk_forw {n0 lv : Nat} {a : Ac} {B : Bk} (h : preA n0 lv a B) (hg : ∀ c, c < bN B → bG B c ≤ 240) : aftA n0 a (fwA a B) ∧ bwA a (fwA a B) = B := by
  obtain ⟨k, c, v, w⟩ := a
  rcases h with ⟨h1, h2, h3, h4⟩ | ⟨h1, h2, h3, h4⟩ | ⟨h1, h2, h3, h4⟩
  · have h1 : k = 0 := h1
    have h2' : bN B = c := h2
    subst h1
    have e : fwA (0, c, v, w) B = setN B (c + 1) := rfl
    rw [e]
    refine ⟨Or.inl ⟨rfl, rfl, h3⟩, ?_⟩
    show setN (setN B (c + 1)) c = B
    rw [← h2']; rfl
  · have h1 : k = 1 := h1
    have h4 : bCt B c = decide (v = 1) := h4
    subst h1
    have e : fwA (1, c, v, w) B = setT B c (decide (w = 1)) := rfl
    rw [e]
    refine ⟨Or.inr (Or.inl ⟨rfl, h2, h3, (by show upN (bCt B) c _ c = _; rw [upN_at])⟩), ?_⟩
    show ((B.1.1, B.1.2.1, B.1.2.2.1, upN (upN (bCt B) c (decide (w = 1))) c (decide (v = 1))), B.2) = B
    rw [upN_up h4]; rfl
  · have h1 : k = 2 := h1
    have h4 : bG B c = v := h4
    subst h1
    have e : fwA (2, c, v, w) B = setG B c w := rfl
    rw [e]
    refine ⟨Or.inr (Or.inr ⟨rfl, h2, (by have h2 : c < bN B := h2; have := hg c h2; show v ≤ 240; omega), (by show upN (bG B) c w c = w; rw [upN_at])⟩), ?_⟩
    show (B.1, (B.2.1.1, B.2.1.2.1, B.2.1.2.2.1, upN (upN (bG B) c w) c v, B.2.1.2.2.2.2), B.2.2) = B
    rw [upN_up h4]; rfl
/-- what has been done speaks of no rows beyond the cases -/
theorem DnA_congr {n0 : Nat} : ∀ {D : List Ac} {B B' : Bk}, bN B' = bN B → bM B' = bM B → bCt B' = bCt B → (∀ c, c < bN B → bG B' c = bG B c) → DnA n0 D B → DnA n0 D B'
  | [], _, _, _, _, _, _, _ => True.intro
  | a :: t, B, B', e1, e2, e3, e4, h => by
    obtain ⟨k, c, v, w⟩ := a
    obtain ⟨h1, h2⟩ := h
    refine ⟨?_, ?_⟩
    · rcases h1 with ⟨h1, h3, h4⟩ | ⟨h1, h3, h4, h5⟩ | ⟨h1, h3, h4, h5⟩
      · exact Or.inl ⟨h1, e1.trans h3, h4⟩
      · exact Or.inr (Or.inl ⟨h1, by rw [e2]; exact h3, h4, by rw [e3]; exact h5⟩)
      · exact Or.inr (Or.inr ⟨h1, by rw [e1]; exact h3, h4, by rw [e4 _ h3]; exact h5⟩)
    · rcases h1 with ⟨h1, h3, h4⟩ | ⟨h1, h3, h4, h5⟩ | ⟨h1, h3, h4, h5⟩
      · have h1 : k = 0 := h1
        have h3 : bN B = c + 1 := h3
        subst h1
        exact DnA_congr (B := setN B c) (B' := setN B' c) rfl e2 e3 (fun x hx => e4 x (by have hx : x < c := hx; omega)) h2
      · have h1 : k = 1 := h1
        subst h1
        refine DnA_congr (B := setT B c (decide (v = 1))) (B' := setT B' c (decide (v = 1))) e1 e2 ?_ e4 h2
        show upN (bCt B') c _ = upN (bCt B) c _
        rw [e3]
      · have h1 : k = 2 := h1
        subst h1
        refine DnA_congr (B := setG B c v) (B' := setG B' c v) e1 e2 e3 (fun x hx => ?_) h2
        show upN (bG B') c v x = upN (bG B) c v x
        by_cases z : x = c
        · rw [z, upN_at, upN_at]
        · rw [upN_ne z, upN_ne z]; exact e4 x hx
theorem DnA_drop {n0 : Nat} : ∀ {D : List Ac} {B : Bk}, DnA n0 D B → DnA n0 D.dropLast B
  | [], _, _ => True.intro
  | [a], _, _ => True.intro
  | a :: c :: t, B, h => by
    show DnA n0 (a :: (c :: t).dropLast) B
    exact ⟨h.1, DnA_drop h.2⟩
/-! what a state keeps to -/
def TdOk (n0 : Nat) (B : Bk) : Prop := n0 ≤ bN B ∧ ∀ t, t < bT B → bA B t < n0 ∧ bU B t < n0
def NmOk (B : Bk) (nm : Nat → Nat) : Prop := (∀ i, i < bM B → bNm B i = jJ ((nm i : Nat) : Int) ∧ nm i < 2 ^ 64) ∧ ∀ i k, i < bM B → k < bM B → nm i = nm k → i = k
def BxOk (n0 : Nat) (B X : Bk) : Prop := bM X = bM B ∧ bNm X = bNm B ∧ bTp X = bTp B ∧ bT X = bT B ∧ bA X = bA B ∧ bU X = bU B ∧ BkOk (bN X) X ∧ n0 ≤ bN X
def OkS (s : St) : Prop :=
  ((∀ i, s.b i < 256) ∧ s.n ≤ 1300) ∧ (BkOk s.lv s.B ∧ TdOk s.n0 s.B ∧ NmOk s.B s.nm ∧ ∀ m, m < bM s.B → s.nw m ≤ bTp s.B m) ∧ LwOk (bM s.B) s.S ∧
  (s.D.length + s.U.length ≤ 60 ∧ DnA s.n0 s.D s.B ∧ UnA s.n0 s.lv s.U s.B) ∧ ∀ i, i < 3 → (s.x i).1 = true → BxOk s.n0 s.B (s.x i).2
/-! the class's cells -/
def scrC : List Nat := (List.range 124).filter (fun x => decide (x = 0 ∨ (3 ≤ x ∧ x ≤ 11) ∨ (83 ≤ x ∧ x ≠ 113)))
theorem mem_scrC {x : Nat} : x ∈ scrC ↔ x < 124 ∧ (x = 0 ∨ (3 ≤ x ∧ x ≤ 11) ∨ (83 ≤ x ∧ x ≠ 113)) := by
  unfold scrC; rw [List.mem_filter, List.mem_range, decide_eq_true_eq]
def TC (s : St) (σ : Mem) : Prop := TpC s.b s.n σ ∧ σ.1 1 1 = s.f ∧ σ.1 1 2 = s.p
def NwC (r : Nat) (B : Bk) (nw : Nat → Nat) (σ : Mem) : Prop := ∀ m, m < bM B → σ.1 (r + 7) (6 * 16 + m) = nI (nw m)
def rwD : List Ac → Mem → Prop
  | [], _ => True
  | a :: t, σ => (σ.1 79 t.length = nI a.1 ∧ σ.1 80 t.length = nI a.2.1 ∧ σ.1 81 t.length = nI a.2.2.1 ∧ σ.1 82 t.length = nI a.2.2.2) ∧ rwD t σ
def rwU : Nat → List Ac → Mem → Prop
  | _, [], _ => True
  | k, a :: t, σ => (σ.1 79 k = nI a.1 ∧ σ.1 80 k = nI a.2.1 ∧ σ.1 81 k = nI a.2.2.1 ∧ σ.1 82 k = nI a.2.2.2) ∧ rwU (k + 1) t σ
def AcC (D U : List Ac) (σ : Mem) : Prop := (σ.1 78 0 = nI D.length ∧ σ.1 78 1 = nI (D.length + U.length)) ∧ rwD D σ ∧ rwU D.length U σ
def BxC (i : Nat) (X : Bk) (σ : Mem) : Prop :=
  (σ.1 (47 + 10 * i) 3 = sX (bCt X) ∧ σ.1 (47 + 10 * i) 4 = nI (bN X)) ∧ (rowI σ (47 + 10 * i + 3) (bN X) (bJ X) ∧ rowI σ (47 + 10 * i + 4) (bN X) (bY X) ∧ rowI σ (47 + 10 * i + 5) (bN X) (bG X) ∧ rowI σ (47 + 10 * i + 6) (bN X) (bW X)) ∧ ∀ c m, c < bN X → m < bM X → σ.1 (47 + 10 * i + 7) (6 * c + m) = nI (bS X c m)
def XC (x : Nat → Bool × Bk) (σ : Mem) : Prop := ∀ i, i < 3 → σ.1 77 i = b01 (x i).1 ∧ ((x i).1 = true → BxC i (x i).2 σ)
/-- the laws: when there are none, the rest of their cells is as it may be -/
def LwS (o : Nat) (S : Lw) (σ : Mem) : Prop := (o = 32 ∨ o = 39) ∧ σ.1 o 2 = nI S.k ∧ (S.k = 0 ∨ LwC o S σ)
/-! what is known -/
noncomputable def dO (B : Bk) : Nat → Nat → Bool := oV B (bCt B) (bT B)
def Al (B : Bk) : Nat → Bool := fun c => decide (c < bN B)
noncomputable def KSq (B : Bk) (σ : Mem) : Prop := SqC 92 (bW B) (bG B) (dO B) (Al B) σ
def KGp (B : Bk) (σ : Mem) : Prop := ∃ f, KG (bW B) (bG B) (dO B) (Al B) f ∧ (∀ c, c < bN B → f c ≤ 240 ∧ σ.1 97 c = nI (f c) ∧ σ.1 98 c = nI (gD (bW B) (bG B) f c)) ∧ σ.1 92 7 = nI (sN (bN B) (gD (bW B) (bG B) f))
def KAg (B : Bk) (σ : Mem) : Prop := ∃ f l k, Tal 16 (fun s => s < 2 ^ bN B ∧ cvr (bN B) (clE (dO B) (bG B)) s) f l k ∧ TalM f l k σ
/-- what it costs by squares as if these two marks alone counted -/
noncomputable def dG (B : Bk) (a b : Nat) : Nat → Nat → Bool := oV B (fun m => decide (m = a) || decide (m = b)) 0
def CstV (B : Bk) (D : Nat → Nat → Bool) (T : Nat → Bool) (r : Rat) : Prop := ∃ f, VI 16 D T (qF (bW B)) (qF (bG B)) f ∧ r = sT 16 T (fun c => qF (bW B) c * ((qF (bG B) c - f c) * (qF (bG B) c - f c)))
/-- the best of the pairs before (a, b): so far -/
def BstP (B : Bk) (a b x y : Nat) (r : Rat) : Prop := (x < y ∧ y < bM B ∧ (x < a ∨ (x = a ∧ y < b))) ∧ CstV B (dG B x y) (Al B) r ∧ ∀ a' b' r', a' < b' → b' < bM B → (a' < a ∨ (a' = a ∧ b' < b)) → CstV B (dG B a' b') (Al B) r' → r ≤ r' ∧ (r' = r → x < a' ∨ (x = a' ∧ y ≤ b'))
def BsG (B : Bk) (a b : Nat) (v : Int32) (r : Rat) : Prop := (v = -1 ∧ ∀ a' b', a' < b' → b' < bM B → ¬ (a' < a ∨ (a' = a ∧ b' < b))) ∨ ∃ x y, BstP B a b x y r ∧ v = nI (10 * x + y) ∧ r.den ≤ 2300000 ∧ 0 ≤ r ∧ r ≤ ((921600 : Nat) : Rat)
noncomputable def qBe (B : Bk) : Int32 := Classical.epsilon (fun v => ∃ c r, BsG B (bM B) c v r)
def BstV (B : Bk) (a b : Nat) : Prop := qBe B = nI (10 * a + b)
def KBs (B : Bk) (σ : Mem) : Prop := ∃ a b, BstV B a b ∧ σ.1 0 16 = nI (10 * a + b)
def Kn (B : Bk) (σ : Mem) : Prop := ∃ k, k < 32 ∧ σ.1 0 17 = nI k ∧ (k.testBit 0 = true → OrC 83 (dO B) σ) ∧ (k.testBit 1 = true → KSq B σ) ∧ (k.testBit 2 = true → KGp B σ) ∧ (k.testBit 3 = true → KAg B σ) ∧ (k.testBit 4 = true → KBs B σ)
/-- the class's cells but for what is known -/
def RB (s : St) (r o : Nat) (σ : Mem) : Prop :=
  (((r = 12 ∧ σ.2.2 0 3 = 22) ∨ (r = 22 ∧ σ.2.2 0 3 = 12)) ∧ σ.2.2 0 2 = r ∧ ((o = 32 ∧ σ.2.2 0 5 = 39) ∨ (o = 39 ∧ σ.2.2 0 5 = 32)) ∧ σ.2.2 0 4 = o) ∧
  TC s σ ∧ (BkC r s.lv s.B σ ∧ NwC r s.B s.nw σ) ∧ LwS o s.S σ ∧ AcC s.D s.U σ ∧ XC s.x σ ∧ σ.1 113 0 = 0
def RC (s : St) (σ : Mem) : Prop := ∃ r o, RB s r o σ ∧ Kn s.B σ
/-! frames of the class's parts -/
theorem TC_fr {s : St} {σ σ' : Mem} {ls : List Nat} (h : TC s σ) (f : Fr ls σ σ') (h1 : 1 ∉ ls) (h2 : 2 ∉ ls) : TC s σ' := by
  have e1 := (f 1 h1).1
  have e2 := (f 2 h2).1
  exact ⟨⟨by rw [e1]; exact h.1.1, fun i hi => by rw [e2]; exact h.1.2 i hi⟩, by rw [e1]; exact h.2.1, by rw [e1]; exact h.2.2⟩
theorem BkC_f2 {r lv : Nat} {B : Bk} {σ σ' : Mem} {ls : List Nat} (h : BkC r lv B σ) (f : Fr ls σ σ') (hl : ∀ x, r ≤ x → x ≤ r + 9 → x ∉ ls) : BkC r lv B σ' := by
  obtain ⟨h1, ⟨a1, a2, a3, a4⟩, ⟨b1, b2, b3, b4, b5, b6⟩, c1, c2, c3⟩ := h
  have e : ∀ x, r ≤ x → x ≤ r + 9 → σ'.1 x = σ.1 x ∧ σ'.2.1 x = σ.2.1 x := fun x h1 h2 => ⟨(f x (hl x h1 h2)).1, (f x (hl x h1 h2)).2.1⟩
  unfold BkC rowI
  rw [(e r (by omega) (by omega)).1, (e (r + 1) (by omega) (by omega)).2, (e (r + 2) (by omega) (by omega)).1, (e (r + 3) (by omega) (by omega)).1, (e (r + 4) (by omega) (by omega)).1, (e (r + 5) (by omega) (by omega)).1, (e (r + 6) (by omega) (by omega)).1, (e (r + 7) (by omega) (by omega)).1, (e (r + 8) (by omega) (by omega)).1, (e (r + 9) (by omega) (by omega)).1]
  exact ⟨h1, ⟨a1, a2, a3, a4⟩, ⟨b1, b2, b3, b4, b5, b6⟩, c1, c2, c3⟩
theorem NwC_fr {r : Nat} {B : Bk} {nw : Nat → Nat} {σ σ' : Mem} {ls : List Nat} (h : NwC r B nw σ) (f : Fr ls σ σ') (hl : r + 7 ∉ ls) : NwC r B nw σ' := fun m hm => by
  rw [(f (r + 7) hl).1]; exact h m hm
theorem LwC_fr {o : Nat} {S : Lw} {σ σ' : Mem} {ls : List Nat} (h : LwC o S σ) (f : Fr ls σ σ') (hl : ∀ x, o ≤ x → x ≤ o + 5 → x ∉ ls) : LwC o S σ' := by
  obtain ⟨⟨h1, ⟨h2, h3⟩, h4⟩, h5, h6⟩ := h
  have e : ∀ x, o ≤ x → x ≤ o + 5 → σ'.1 x = σ.1 x := fun x h1 h2 => (f x (hl x h1 h2)).1
  refine ⟨⟨h1, ⟨by rw [e o (by omega) (by omega)]; exact h2, by rw [e o (by omega) (by omega)]; exact h3⟩, rwC_fr (e _ (by omega) (by omega)) (e _ (by omega) (by omega)) h4⟩, by rw [e o (by omega) (by omega)]; exact h5, fun i hi => ?_⟩
  rw [e (o + 1) (by omega) (by omega), e (o + 2) (by omega) (by omega), e (o + 3) (by omega) (by omega)]; exact h6 i hi
theorem LwS_fr {o : Nat} {S : Lw} {σ σ' : Mem} {ls : List Nat} (h : LwS o S σ) (f : Fr ls σ σ') (hl : ∀ x, o ≤ x → x ≤ o + 5 → x ∉ ls) : LwS o S σ' :=
  ⟨h.1, by rw [(f o (hl o (by omega) (by omega))).1]; exact h.2.1, h.2.2.imp id fun q => LwC_fr q f hl⟩
theorem rwD_eq {σ σ' : Mem} (e1 : σ'.1 79 = σ.1 79) (e2 : σ'.1 80 = σ.1 80) (e3 : σ'.1 81 = σ.1 81) (e4 : σ'.1 82 = σ.1 82) : ∀ {D : List Ac}, rwD D σ → rwD D σ'
  | [], _ => True.intro
  | a :: t, h => ⟨by rw [e1, e2, e3, e4]; exact h.1, rwD_eq e1 e2 e3 e4 h.2⟩
theorem rwU_eq {σ σ' : Mem} (e1 : σ'.1 79 = σ.1 79) (e2 : σ'.1 80 = σ.1 80) (e3 : σ'.1 81 = σ.1 81) (e4 : σ'.1 82 = σ.1 82) : ∀ {U : List Ac} {k : Nat}, rwU k U σ → rwU k U σ'
  | [], _, _ => True.intro
  | a :: t, k, h => ⟨by rw [e1, e2, e3, e4]; exact h.1, rwU_eq e1 e2 e3 e4 h.2⟩
theorem AcC_fr {D U : List Ac} {σ σ' : Mem} {ls : List Nat} (h : AcC D U σ) (f : Fr ls σ σ') (hl : ∀ x, 78 ≤ x → x ≤ 82 → x ∉ ls) : AcC D U σ' := by
  have e : ∀ x, 78 ≤ x → x ≤ 82 → σ'.1 x = σ.1 x := fun x h1 h2 => (f x (hl x h1 h2)).1
  refine ⟨by rw [e 78 (by omega) (by omega)]; exact h.1, rwD_eq (e _ (by omega) (by omega)) (e _ (by omega) (by omega)) (e _ (by omega) (by omega)) (e _ (by omega) (by omega)) h.2.1, rwU_eq (e _ (by omega) (by omega)) (e _ (by omega) (by omega)) (e _ (by omega) (by omega)) (e _ (by omega) (by omega)) h.2.2⟩
theorem BxC_fr {i : Nat} {X : Bk} {σ σ' : Mem} {ls : List Nat} (h : BxC i X σ) (f : Fr ls σ σ') (hl : ∀ x, 47 + 10 * i ≤ x → x ≤ 47 + 10 * i + 7 → x ∉ ls) : BxC i X σ' := by
  have e : ∀ x, 47 + 10 * i ≤ x → x ≤ 47 + 10 * i + 7 → σ'.1 x = σ.1 x := fun x h1 h2 => (f x (hl x h1 h2)).1
  unfold BxC rowI
  rw [e (47 + 10 * i) (by omega) (by omega), e (47 + 10 * i + 3) (by omega) (by omega), e (47 + 10 * i + 4) (by omega) (by omega), e (47 + 10 * i + 5) (by omega) (by omega), e (47 + 10 * i + 6) (by omega) (by omega), e (47 + 10 * i + 7) (by omega) (by omega)]
  exact h
theorem XC_fr {x : Nat → Bool × Bk} {σ σ' : Mem} {ls : List Nat} (h : XC x σ) (f : Fr ls σ σ') (hl : ∀ y, 47 ≤ y → y ≤ 77 → y ∉ ls) : XC x σ' := fun i hi =>
  ⟨by rw [(f 77 (hl 77 (by omega) (by omega))).1]; exact (h i hi).1, fun hf => BxC_fr ((h i hi).2 hf) f fun y h1 h2 => hl y (by omega) (by omega)⟩
theorem RB_fr {s : St} {r o : Nat} {σ σ' : Mem} {ls : List Nat} (h : RB s r o σ) (f : Fr ls σ σ') (hr : σ'.2.2 0 = σ.2.2 0) (hl : ∀ x, x ∈ ls → x = 0 ∨ (3 ≤ x ∧ x ≤ 11) ∨ (83 ≤ x ∧ x ≠ 113)) : RB s r o σ' := by
  obtain ⟨h0, h1, ⟨h2, h3⟩, h4, h5, h6, h7⟩ := h
  have hr12 : r = 12 ∨ r = 22 := h2.1
  have ho : o = 32 ∨ o = 39 := h4.1
  refine ⟨by rw [hr]; exact h0, TC_fr h1 f (fun q => by have := hl _ q; omega) (fun q => by have := hl _ q; omega), ⟨BkC_f2 h2 f fun x x1 x2 q => by have := hl _ q; omega, NwC_fr h3 f fun q => by have := hl _ q; omega⟩, LwS_fr h4 f fun x x1 x2 q => by have := hl _ q; omega, AcC_fr h5 f fun x x1 x2 q => by have := hl _ q; omega, XC_fr h6 f fun x x1 x2 q => by have := hl _ q; omega, ?_⟩
  rw [(f 113 (fun q => by have := hl _ q; omega)).1]; exact h7
theorem OrC_f2 {o : Nat} {D : Nat → Nat → Bool} {σ σ' : Mem} {ls : List Nat} (h : OrC o D σ) (f : Fr ls σ σ') (hl : o + 1 ∉ ls ∧ o + 2 ∉ ls) : OrC o D σ' :=
  ⟨h.1, fun a ha => by rw [(f _ hl.1).1, (f _ hl.2).1]; exact h.2 a ha⟩
theorem SqC_f2 {o : Nat} {w g : Nat → Nat} {ov : Nat → Nat → Bool} {T : Nat → Bool} {σ σ' : Mem} {ls : List Nat} (h : SqC o w g ov T σ) (f : Fr ls σ σ') (hl : ∀ x, o + 1 ≤ x → x ≤ o + 4 → x ∉ ls) : SqC o w g ov T σ' := by
  obtain ⟨ff, r, h1, h2, h3, h4, h5⟩ := h
  have e : ∀ x, o + 1 ≤ x → x ≤ o + 4 → σ'.1 x = σ.1 x ∧ σ'.2.1 x = σ.2.1 x := fun x h1 h2 => ⟨(f x (hl x h1 h2)).1, (f x (hl x h1 h2)).2.1⟩
  refine ⟨ff, r, h1, h2, h3, by rw [(e (o + 4) (by omega) (by omega)).2]; exact h4, ?_⟩
  rw [(e (o + 1) (by omega) (by omega)).1, (e (o + 2) (by omega) (by omega)).2, (e (o + 3) (by omega) (by omega)).2]; exact h5
theorem Kn_fr {B : Bk} {σ σ' : Mem} {ls : List Nat} (h : Kn B σ) (f : Fr ls σ σ') (h0 : σ'.1 0 16 = σ.1 0 16 ∧ σ'.1 0 17 = σ.1 0 17) (h110 : σ'.1 110 0 = σ.1 110 0 ∧ σ'.1 110 1 = σ.1 110 1 ∧ σ'.1 110 2 = σ.1 110 2) (hl : ∀ x, x ∈ ls → x < 84 ∨ (86 ≤ x ∧ x ≤ 91) ∨ 99 ≤ x) : Kn B σ' := by
  obtain ⟨k, k1, k2, k3, k4, k5, k6, k7⟩ := h
  refine ⟨k, k1, by rw [h0.2]; exact k2, fun q => OrC_f2 (k3 q) f ⟨fun z => by have := hl _ z; omega, fun z => by have := hl _ z; omega⟩, fun q => SqC_f2 (k4 q) f fun x x1 x2 z => by have := hl _ z; omega, fun q => ?_, fun q => ?_, fun q => ?_⟩
  · obtain ⟨g, g1, g2, g3⟩ := k5 q
    refine ⟨g, g1, ?_, ?_⟩
    · rw [(f 97 (fun z => by have := hl _ z; omega)).1, (f 98 (fun z => by have := hl _ z; omega)).1]; exact g2
    · rw [(f 92 (fun z => by have := hl _ z; omega)).1]; exact g3
  · obtain ⟨a, b, c, g1, g2, g3, g4⟩ := k6 q
    refine ⟨a, b, c, g1, ?_, g3, g4⟩
    rw [h110.1, h110.2.1, h110.2.2]; exact g2
  · obtain ⟨a, b, g1, g2⟩ := k7 q
    exact ⟨a, b, g1, by rw [h0.1]; exact g2⟩
theorem Kn_0 {B : Bk} {σ : Mem} (h : σ.1 0 17 = 0) : Kn B σ := ⟨0, by omega, h, fun q => absurd q (by decide), fun q => absurd q (by decide), fun q => absurd q (by decide), fun q => absurd q (by decide), fun q => absurd q (by decide)⟩
/-! the reference's cells -/
def rwDR : List Ac → Mem → Prop
  | [], _ => True
  | a :: t, σ => (σ.1 174 t.length = nI a.1 ∧ σ.1 175 t.length = nI a.2.1 ∧ (a.1 = 2 → σ.1 176 t.length = nI a.2.2.1)) ∧ rwDR t σ
def rwUR : Nat → List Ac → Mem → Prop
  | _, [], _ => True
  | k, a :: t, σ => (σ.1 174 k = nI a.1 ∧ σ.1 175 k = nI a.2.1 ∧ (a.1 = 2 → σ.1 176 k = nI a.2.2.2)) ∧ rwUR (k + 1) t σ
def AcR (D U : List Ac) (σ : Mem) : Prop := (σ.1 124 78 = nI D.length ∧ σ.1 124 79 = nI U.length) ∧ rwDR D σ ∧ rwUR D.length U σ
def BxR (i : Nat) (X : Bk) (σ : Mem) : Prop :=
  ((∀ m, m < 6 → σ.1 178 (6 * i + m) = b01 (bCt X m)) ∧ σ.1 179 i = nI (bN X)) ∧ (∀ c, c < bN X → σ.1 181 (16 * i + c) = nI (bJ X c) ∧ σ.1 182 (16 * i + c) = nI (bY X c) ∧ σ.1 183 (16 * i + c) = nI (bG X c) ∧ σ.1 184 (16 * i + c) = nI (bW X c)) ∧ ∀ c m, c < bN X → m < bM X → σ.1 180 (96 * i + (6 * c + m)) = nI (bS X c m)
def XR (x : Nat → Bool × Bk) (σ : Mem) : Prop := ∀ i, i < 3 → σ.1 177 i = b01 (x i).1 ∧ ((x i).1 = true → BxR i (x i).2 σ)
def TR (s : St) (σ : Mem) : Prop := (σ.1 124 1 = nI s.n ∧ ∀ i, i < s.n → σ.1 125 i = nI (s.b i)) ∧ σ.1 124 2 = s.f ∧ σ.1 124 3 = s.p
def RR (s : St) (σ : Mem) : Prop := TR s σ ∧ BkR s.lv s.B σ ∧ (∀ m, m < bM s.B → σ.1 173 m = nI (s.nw m)) ∧ LwF s.S σ ∧ AcR s.D s.U σ ∧ XR s.x σ
/-- what the reference's queries leave -/
def lsRef : List Nat := (List.range 185).filter (fun x => decide (124 ≤ x))
theorem mem_ref {x : Nat} : x ∈ lsRef ↔ 124 ≤ x ∧ x < 185 := by
  unfold lsRef; rw [List.mem_filter, List.mem_range, decide_eq_true_eq]; omega
def CR (σ σ' : Mem) : Prop := Fr lsRef σ σ'
def QS (σ σ' : Mem) : Prop := (∀ j, j = 125 ∨ (139 ≤ j ∧ j ≤ 148) ∨ (166 ≤ j ∧ j ≤ 170) ∨ 173 ≤ j → σ'.1 j = σ.1 j ∧ σ'.2.1 j = σ.2.1 j ∧ σ'.2.2 j = σ.2.2 j) ∧ ∀ y, y = 1 ∨ y = 2 ∨ y = 3 ∨ y = 37 ∨ y = 38 ∨ y = 39 ∨ y = 70 ∨ y = 78 ∨ y = 79 → σ'.1 124 y = σ.1 124 y
def QR (σ σ' : Mem) : Prop := CR σ σ' ∧ QS σ σ'
theorem cR_rfl {σ : Mem} : CR σ σ := Fr.rfl
theorem cR_tr {σ σ' σ'' : Mem} (h : CR σ σ') (h' : CR σ' σ'') : CR σ σ'' := Fr.tr h h'
theorem qS_tr {σ σ' σ'' : Mem} (h : QS σ σ') (h' : QS σ' σ'') : QS σ σ'' := ⟨fun j hj => ⟨(h'.1 j hj).1.trans (h.1 j hj).1, (h'.1 j hj).2.1.trans (h.1 j hj).2.1, (h'.1 j hj).2.2.trans (h.1 j hj).2.2⟩, fun y hy => (h'.2 y hy).trans (h.2 y hy)⟩
theorem qR_rfl {σ : Mem} : QR σ σ := ⟨cR_rfl, fun _ _ => ⟨rfl, rfl, rfl⟩, fun _ _ => rfl⟩
theorem qR_tr {σ σ' σ'' : Mem} (h : QR σ σ') (h' : QR σ' σ'') : QR σ σ'' := ⟨cR_tr h.1 h'.1, qS_tr h.2 h'.2⟩
theorem cR_fr {σ σ' : Mem} {ls : List Nat} (f : Fr ls σ σ') (hl : ∀ x, x ∈ ls → 124 ≤ x ∧ x < 185) : CR σ σ' := f.mono fun x hx => mem_ref.mpr (hl x hx)
theorem qR_fr {σ σ' : Mem} {ls : List Nat} (f : Fr ls σ σ') (hl : ∀ x, x ∈ ls → (126 ≤ x ∧ x ≤ 138) ∨ (149 ≤ x ∧ x ≤ 165) ∨ x = 171 ∨ x = 172) : QR σ σ' :=
  ⟨cR_fr f fun x hx => by have := hl x hx; omega, fun j hj => f j fun q => by have := hl j q; omega, fun y _ => by rw [(f 124 (fun q => by have := hl _ q; omega)).1]⟩
theorem AcR_eq {D U : List Ac} {σ σ' : Mem} (h78 : σ'.1 124 78 = σ.1 124 78) (h79 : σ'.1 124 79 = σ.1 124 79) (e1 : σ'.1 174 = σ.1 174) (e2 : σ'.1 175 = σ.1 175) (e3 : σ'.1 176 = σ.1 176) (h : AcR D U σ) : AcR D U σ' := by
  have a1 : ∀ (D : List Ac), rwDR D σ → rwDR D σ' := by
    intro D
    induction D with
    | nil => exact fun _ => True.intro
    | cons a t ih => exact fun h => ⟨by rw [e1, e2, e3]; exact h.1, ih h.2⟩
  have a2 : ∀ (U : List Ac) (k : Nat), rwUR k U σ → rwUR k U σ' := by
    intro U
    induction U with
    | nil => exact fun _ _ => True.intro
    | cons a t ih => exact fun k h => ⟨by rw [e1, e2, e3]; exact h.1, ih _ h.2⟩
  exact ⟨⟨by rw [h78]; exact h.1.1, by rw [h79]; exact h.1.2⟩, a1 _ h.2.1, a2 _ _ h.2.2⟩
theorem XR_eq {x : Nat → Bool × Bk} {σ σ' : Mem} (e : ∀ j, 177 ≤ j → j ≤ 184 → σ'.1 j = σ.1 j) (h : XR x σ) : XR x σ' := by
  unfold XR BxR
  rw [e 177 (by omega) (by omega), e 178 (by omega) (by omega), e 179 (by omega) (by omega), e 180 (by omega) (by omega), e 181 (by omega) (by omega), e 182 (by omega) (by omega), e 183 (by omega) (by omega), e 184 (by omega) (by omega)]
  exact h
theorem BkR_eq {lv : Nat} {B : Bk} {σ σ' : Mem} (e : ∀ j, 139 ≤ j → j ≤ 148 → σ'.1 j = σ.1 j ∧ σ'.2.1 j = σ.2.1 j) (h37 : σ'.1 124 37 = σ.1 124 37) (h38 : σ'.1 124 38 = σ.1 124 38) (h39 : σ'.1 124 39 = σ.1 124 39) (h : BkR lv B σ) : BkR lv B σ' := by
  unfold BkR rowI
  rw [h37, h38, h39, (e 139 (by omega) (by omega)).1, (e 140 (by omega) (by omega)).1, (e 141 (by omega) (by omega)).1, (e 142 (by omega) (by omega)).1, (e 143 (by omega) (by omega)).1, (e 144 (by omega) (by omega)).1, (e 145 (by omega) (by omega)).1, (e 146 (by omega) (by omega)).1, (e 147 (by omega) (by omega)).1, (e 148 (by omega) (by omega)).2]
  exact h
theorem LwF_eq {S : Lw} {σ σ' : Mem} (e : ∀ j, 166 ≤ j → j ≤ 170 → σ'.1 j = σ.1 j) (h70 : σ'.1 124 70 = σ.1 124 70) (h : LwF S σ) : LwF S σ' := by
  unfold LwF
  rw [h70, e 166 (by omega) (by omega), e 167 (by omega) (by omega), e 168 (by omega) (by omega), e 169 (by omega) (by omega), e 170 (by omega) (by omega)]
  exact h
theorem RR_Q {s : St} {σ σ' : Mem} (h : RR s σ) (f : QS σ σ') : RR s σ' := by
  obtain ⟨⟨⟨h1, h2⟩, h3, h4⟩, h5, h6, h7, h8, h9⟩ := h
  refine ⟨⟨⟨by rw [f.2 1 (by omega)]; exact h1, by rw [(f.1 125 (by omega)).1]; exact h2⟩, by rw [f.2 2 (by omega)]; exact h3, by rw [f.2 3 (by omega)]; exact h4⟩, BkR_eq (fun j a c => ⟨(f.1 j (by omega)).1, (f.1 j (by omega)).2.1⟩) (f.2 37 (by omega)) (f.2 38 (by omega)) (f.2 39 (by omega)) h5, by rw [(f.1 173 (by omega)).1]; exact h6, LwF_eq (fun j a c => (f.1 j (by omega)).1) (f.2 70 (by omega)) h7, AcR_eq (f.2 78 (by omega)) (f.2 79 (by omega)) (f.1 174 (by omega)).1 (f.1 175 (by omega)).1 (f.1 176 (by omega)).1 h8, XR_eq (fun j a c => (f.1 j (by omega)).1) h9⟩
/-- the reference's cells stay when the class works -/
theorem RR_cls {s : St} {σ σ' : Mem} {ls : List Nat} (h : RR s σ) (f : Fr ls σ σ') (hl : ∀ x, x ∈ ls → x < 124) : RR s σ' :=
  RR_Q h ⟨fun j hj => f j fun q => by have := hl j q; omega, fun y _ => by rw [(f 124 (fun q => by have := hl _ q; omega)).1]⟩
/-- the class's cells stay when the reference works -/
theorem RC_ref {s : St} {σ σ' : Mem} (h : RC s σ) (f : CR σ σ') : RC s σ' := by
  obtain ⟨r, o, h1, h2⟩ := h
  have e0 := f 0 (fun q => by have := mem_ref.mp q; omega)
  have e110 := (f 110 (fun q => by have := mem_ref.mp q; omega)).1
  exact ⟨r, o, RB_fr h1 f e0.2.2 fun x hx => by have := mem_ref.mp hx; omega, Kn_fr h2 f (by rw [e0.1]; exact ⟨rfl, rfl⟩) (by rw [e110]; exact ⟨rfl, rfl, rfl⟩) fun x hx => by have := mem_ref.mp hx; omega⟩
