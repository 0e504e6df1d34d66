/-! KEPT BY GAPS: the reference's way -/
theorem mx_ex (D : Nat → Nat → Bool) (a : Nat → Int) {t : Nat} (ht : t < 65536) : ∃ b, b < 65536 ∧ MX 16 D t.testBit a b.testBit := by
  have step : ∀ j, j ≤ t → ∃ b, Pst D a t (j + 1) b := by
    intro j
    induction j with
    | zero => exact fun _ => ⟨0, pst_0⟩
    | succ j ih =>
      intro hj
      obtain ⟨b, hb⟩ := ih (by omega)
      rcases Classical.em (upO 16 D t.testBit (j + 1).testBit ∧ (sS 16 b.testBit a < sS 16 (j + 1).testBit a ∨ (0 < sS 16 b.testBit a ∧ sS 16 (j + 1).testBit a = sS 16 b.testBit a ∧ pc 16 (j + 1) < pc 16 b))) with q | q
      · exact ⟨j + 1, pst_new hb (by omega) q.1 q.2⟩
      · refine ⟨b, pst_keep hb fun hu => ?_⟩
        have q2 : ¬ (sS 16 b.testBit a < sS 16 (j + 1).testBit a ∨ (0 < sS 16 b.testBit a ∧ sS 16 (j + 1).testBit a = sS 16 b.testBit a ∧ pc 16 (j + 1) < pc 16 b)) := fun z => q ⟨hu, z⟩
        refine ⟨by omega, fun e => ?_⟩
        rcases hb.2.2.2.1 with z | z
        · rw [z, pc_0]; exact Nat.zero_le _
        · omega
  obtain ⟨b, hb⟩ := step t (Nat.le_refl _)
  exact ⟨b, hb.1, pst_end hb ht⟩
theorem sS_bit (a : Nat → Int) {s c : Nat} (hc : c < 16) (ht : s.testBit c = true) (hj : ∀ j, (s &&& (s - 1)).testBit j = (s.testBit j && !decide (j = c))) :
    sS 16 s.testBit a = sS 16 (s &&& (s - 1)).testBit a + a c := by
  have h1 := sZ_one (fun j => if s.testBit j = true then a j else 0) 16 c hc
  have h2 : (if s.testBit c = true then a c else 0) = a c := if_pos ht
  simp only [h2] at h1
  have h3 : sZ 16 (fun j => if j = c then 0 else if s.testBit j = true then a j else 0) = sZ 16 (fun j => if (s &&& (s - 1)).testBit j = true then a j else 0) := sZ_congr 16 fun j _ => by
    rw [hj j]
    by_cases e : j = c
    · rw [if_pos e, decide_eq_true e]; simp
    · rw [if_neg e, decide_eq_false e]; simp
  rw [h3] at h1
  show sZ 16 _ = sZ 16 _ + a c
  rw [h1]; omega
theorem tb_lt {x n : Nat} (h : n ≤ 16) (hx : ∀ c, x.testBit c = true → c < n) : x < 2 ^ n := Nat.lt_pow_two_of_testBit _ fun i hi => by
  cases q : x.testBit i
  · rfl
  · have := hx i q; omega
/-- what all the best of the sets ahead of i have in common -/
def Ist (D : Nat → Nat → Bool) (T : Nat → Bool) (a : Nat → Int) (i b : Nat) (M : Int) : Prop :=
  b < 65536 ∧ 0 ≤ M ∧ (∃ x, x < i ∧ upO 16 D T x.testBit ∧ sS 16 x.testBit a = M) ∧ (∀ x, x < i → upO 16 D T x.testBit → sS 16 x.testBit a ≤ M) ∧ ∀ c, b.testBit c = true ↔ ∀ x, x < i → upO 16 D T x.testBit → sS 16 x.testBit a = M → x.testBit c = true
section rgaps
variable {Θ : Th} {d : Nat} {σ : Mem} {Q : Po} {n : Nat} {D : Nat → Nat → Bool} {w g : Nat → Nat} {a : Nat → Int} {T : Nat → Bool}
theorem ist_0 : Ist D T a 1 0 0 := by
  have hu : upO 16 D T (0 : Nat).testBit := ⟨fun c _ h => (by rw [tb0] at h; cases h), fun _ b _ _ _ h _ => (by rw [tb0] at h; cases h)⟩
  refine ⟨by decide, Int.le_refl _, ⟨0, by decide, hu, sS_0 a⟩, fun x hx _ => ?_, fun c => ⟨fun h => (by rw [tb0] at h; cases h), fun h => h 0 (by decide) hu (sS_0 a)⟩⟩
  have : x = 0 := by omega
  subst this; rw [sS_0]; exact Int.le_refl _
theorem ist_skip {i b : Nat} {M : Int} (h : Ist D T a i b M) (hx : ¬ upO 16 D T i.testBit ∨ sS 16 i.testBit a < M) : Ist D T a (i + 1) b M := by
  obtain ⟨h1, h2, ⟨x0, a1, a2, a3⟩, h4, h5⟩ := h
  refine ⟨h1, h2, ⟨x0, by omega, a2, a3⟩, fun x hl q => ?_, fun c => ?_⟩
  · rcases Nat.lt_or_ge x i with e | e
    · exact h4 x e q
    · have : x = i := by omega
      subst this
      rcases hx with z | z
      · exact absurd q z
      · omega
  · rw [h5 c]
    refine ⟨fun z x hl q e => ?_, fun z x hl => z x (by omega)⟩
    rcases Nat.lt_or_ge x i with y | y
    · exact z x y q e
    · have : x = i := by omega
      subst this
      rcases hx with z | z
      · exact absurd q z
      · omega
theorem ist_new {i b : Nat} {M : Int} (h : Ist D T a i b M) (hi : i < 65536) (hu : upO 16 D T i.testBit) (hlt : M < sS 16 i.testBit a) : Ist D T a (i + 1) i (sS 16 i.testBit a) := by
  obtain ⟨h1, h2, ⟨x0, a1, a2, a3⟩, h4, h5⟩ := h
  refine ⟨hi, by omega, ⟨i, by omega, hu, rfl⟩, fun x hl q => ?_, fun c => ⟨fun z x hl q e => ?_, fun z => z i (by omega) hu rfl⟩⟩
  · rcases Nat.lt_or_ge x i with e | e
    · have := h4 x e q; omega
    · have : x = i := by omega
      subst this; exact Int.le_refl _
  · rcases Nat.lt_or_ge x i with y | y
    · have := h4 x y q; omega
    · have : x = i := by omega
      subst this; exact z
theorem ist_both {i b : Nat} {M : Int} (h : Ist D T a i b M) (hu : upO 16 D T i.testBit) (he : sS 16 i.testBit a = M) : Ist D T a (i + 1) (b &&& i) M := by
  obtain ⟨h1, h2, ⟨x0, a1, a2, a3⟩, h4, h5⟩ := h
  refine ⟨Nat.lt_of_le_of_lt Nat.and_le_left h1, h2, ⟨x0, by omega, a2, a3⟩, fun x hl q => ?_, fun c => ?_⟩
  · rcases Nat.lt_or_ge x i with e | e
    · exact h4 x e q
    · have : x = i := by omega
      subst this; omega
  · rw [Nat.testBit_and, Bool.and_eq_true, h5 c]
    refine ⟨fun z x hl q e => ?_, fun z => ⟨fun x hl => z x (by omega), z i (by omega) hu he⟩⟩
    rcases Nat.lt_or_ge x i with y | y
    · exact z.1 x y q e
    · have : x = i := by omega
      subst this; exact z.2
theorem ist_end {t b : Nat} {M : Int} (h : Ist D t.testBit a (t + 1) b M) (ht : t < 65536) : MX 16 D t.testBit a b.testBit := by
  obtain ⟨h1, h2, ⟨x0, a1, a2, a3⟩, h4, h5⟩ := h
  obtain ⟨u, hu, hM⟩ := mx_ex D a ht
  have hut : u ≤ t := sub_le fun c hc => hM.1.1 c (tb_16 hu hc) hc
  have e1 := h4 u (by omega) hM.1
  have e2 := (hM.2 _ a2).1
  have e : b = u := Nat.eq_of_testBit_eq fun c => bool_eq (by
    rw [h5 c]
    refine ⟨fun z => z u (by omega) hM.1 (by omega), fun z x hl q e => ?_⟩
    exact (hM.2 _ q).2 (by omega) c (tb_16 hu z) z)
  rw [e]; exact hM
theorem lay_eq {i : Nat} {p : Nat → Bool} (hO : DOk n D) (h16 : n ≤ 16) (hp : ∀ k, k < 16 → (p k = true ↔ ∃ c, i.testBit c = true ∧ D k c = true)) (hi : i < 2 ^ n) : (sX p = nI i) ↔ upO 16 D (2 ^ n - 1).testBit i.testBit := by
  have h65 := pw_le h16
  have hp2 := Nat.two_pow_pos n
  have et : ∀ c, (2 ^ n - 1).testBit c = decide (c < n) := fun c => Nat.testBit_two_pow_sub_one _ _
  rw [sX_nS (show i < 65536 by omega), sX_iff]
  constructor
  · intro h
    refine ⟨fun c hc q => by rw [et]; exact decide_eq_true (pw_b hi q), fun a b ha hb hT hia ho => ?_⟩
    rw [← h a ha]
    exact (hp a ha).mpr ⟨b, hia, ho⟩
  · intro h k hk
    apply bool_eq
    rw [hp k hk]
    constructor
    · rintro ⟨c, hc, ho⟩
      exact h.2 k c hk (by have := pw_b hi hc; omega) (by rw [et]; exact decide_eq_true (hO.2.2 k c ho).1) hc ho
    · intro hik
      exact ⟨k, hik, hO.1 k (pw_b hi hik)⟩
theorem c220 {x : Int} (hn : σ.1 124 38 = nI n) (h16 : n ≤ 16) (hg : ∀ c, c < n → σ.1 143 c = nI (g c) ∧ g c ≤ 240) (hx : -1 ≤ x ∧ x ≤ 240)
    (k0 : (∀ c, c < n → (g c : Int) ≤ x) → Q (some (.int (-1))) σ) (k : ∀ v : Nat, v ≤ 240 → (∃ c, c < n ∧ g c = v) → x < v → (∀ c, c < n → x < g c → v ≤ g c) → Q (some (.int (nI v))) σ) : Cm Θ d 220 [.ref 124, .int (iI x)] σ Q := by
  refine K220 (B220_0 ?_)
  refine loopS (α := Int) (I := fun i y => (y = -1 ∧ ∀ c, c < i → (g c : Int) ≤ x) ∨ ∃ v : Nat, y = v ∧ v ≤ 240 ∧ (∃ c, c < n ∧ g c = v) ∧ x < v ∧ ∀ c, c < i → x < g c → v ≤ g c) (P := fun i y => G Θ d 220 4 [some (.ref 124), some (.int (iI x)), some (.int (iI y)), some (.int (nI i))] [] σ Q) n ?_ ?_ (-1) (Or.inl ⟨rfl, fun c h => absurd h (Nat.not_lt_zero _)⟩)
  · intro y hy
    refine B220_4 ⟨fun _ => ?_, fun h => absurd (by rw [hn]; exact nI_le (Nat.le_refl _) (by omega)) h⟩
    rcases hy with ⟨rfl, h⟩ | ⟨v, rfl, h1, h2, h3, h4⟩
    · exact k0 h
    · rw [← iI_nI]; exact k v h1 h2 h3 h4
  · intro i y hi hy ih
    have v := vp_in_nI (show i < 16 by omega) (by decide)
    have gi := hg i hi
    have hyb : -1 ≤ y ∧ y ≤ 240 := by rcases hy with ⟨rfl, _⟩ | ⟨v, rfl, h, _⟩ <;> omega
    refine B220_4 ⟨fun h => absurd h (by rw [hn]; exact nI_ge hi (by omega)), fun _ => ⟨v, ?_⟩⟩
    rw [nI_1, nI_clamp (by omega), gi.1, iI_nI (g i), iI_le (by omega) (by omega) (by omega) (by omega), show (0 : Int32) = iI 0 from rfl, iI_lt (by omega) (by omega) (by omega) (by omega), iI_le (by omega) (by omega) (by omega) (by omega)]
    refine ⟨fun h => ih y ?_, fun h => ⟨fun h2 => ⟨v, ih (g i : Int) ?_⟩, fun h2 => ⟨v, fun h3 => ih y ?_, fun h3 => ⟨v, ih (g i : Int) ?_⟩⟩⟩⟩
    · rcases hy with ⟨rfl, h1⟩ | ⟨v, rfl, h1, h2, h3, h4⟩
      · refine Or.inl ⟨rfl, fun c hc => ?_⟩
        by_cases z : c = i
        · rw [z]; exact h
        · exact h1 c (by omega)
      · refine Or.inr ⟨v, rfl, h1, h2, h3, fun c hc hx => ?_⟩
        by_cases z : c = i
        · rw [z] at hx; omega
        · exact h4 c (by omega) hx
    · rcases hy with ⟨rfl, h1⟩ | ⟨v, rfl, h1, h2', h3, h4⟩
      · refine Or.inr ⟨g i, rfl, gi.2, ⟨i, hi, rfl⟩, by omega, fun c hc hx => ?_⟩
        by_cases z : c = i
        · rw [z]; exact Nat.le_refl _
        · have := h1 c (by omega); omega
      · omega
    · rcases hy with ⟨rfl, h1⟩ | ⟨v, rfl, h1, h2', h3', h4⟩
      · omega
      · refine Or.inr ⟨v, rfl, h1, h2', h3', fun c hc hx => ?_⟩
        by_cases z : c = i
        · rw [z]; omega
        · exact h4 c (by omega) hx
    · rcases hy with ⟨rfl, h1⟩ | ⟨v, rfl, h1, h2', h3', h4⟩
      · omega
      · refine Or.inr ⟨g i, rfl, gi.2, ⟨i, hi, rfl⟩, by omega, fun c hc hx => ?_⟩
        by_cases z : c = i
        · rw [z]; exact Nat.le_refl _
        · have := h4 c (by omega) hx; omega
theorem aG_b {x : Int} (hw : ∀ c, c < n → w c ≤ 4) (h16 : n ≤ 16) {s : Nat} (hs : s < 2 ^ n) : -64 ≤ sS 16 s.testBit (aG w g x) ∧ sS 16 s.testBit (aG w g x) ≤ 64 := by
  have e : ∀ m : Nat, m ≤ 16 → -(4 * (m : Int)) ≤ sZ m (fun c => if s.testBit c = true then aG w g x c else 0) ∧ sZ m (fun c => if s.testBit c = true then aG w g x c else 0) ≤ 4 * (m : Int) := by
    intro m
    induction m with
    | zero => exact fun _ => ⟨Int.le_refl _, Int.le_refl _⟩
    | succ m ih =>
      intro hm
      have := ih (by omega)
      show -(4 * ((m + 1 : Nat) : Int)) ≤ sZ m _ + (if s.testBit m = true then aG w g x m else 0) ∧ sZ m _ + (if s.testBit m = true then aG w g x m else 0) ≤ 4 * ((m + 1 : Nat) : Int)
      by_cases q : s.testBit m = true
      · have b := hw m (pw_b hs q)
        rw [if_pos q]
        unfold aG at this ⊢
        split <;> omega
      · rw [if_neg q]; omega
  have := e 16 (by omega)
  exact ⟨by have := this.1; show -64 ≤ sZ 16 _; omega, by have := this.2; show sZ 16 _ ≤ 64; omega⟩
theorem c223 {v : Nat} (hv1 : v ≤ 240) (hn : σ.1 124 38 = nI n) (h16 : n ≤ 16) (hw : ∀ c, c < n → σ.1 144 c = nI (w c) ∧ 1 ≤ w c ∧ w c ≤ 4) (hg : ∀ c, c < n → σ.1 143 c = nI (g c) ∧ g c ≤ 240) (hO : DOk n D) (hup : ∀ x, x < 2 ^ n → LayU D x σ)
    (k : ∀ σ' b, Fr [153] σ σ' → b < 65536 → MX 16 D (2 ^ n - 1).testBit (aG w g ((v : Int) - 1)) b.testBit → Q (some (.int (nI b))) σ') : Cm Θ (d + 1) 223 [.ref 124, .int (nI v)] σ Q := by
  have h65 := pw_le h16
  have hp := Nat.two_pow_pos n
  have hw4 : ∀ c, c < n → w c ≤ 4 := fun c h => (hw c h).2.2
  refine K223 (B223_0 ?_)
  have z0 : (0 : Int32) = iI (-(0 : Int)) := rfl
  have zn : (0 : Int32) = nI 0 := rfl
  have zc : (0 : Int32).toNatClampNeg = 0 := rfl
  rw [zc]
  have start := loopS (α := Mem × Nat × Int) (I := fun j z => Fr [153] σ z.1 ∧ (∀ x, x < j + 1 → z.1.1 153 x = iI (-(sS 16 x.testBit (aG w g ((v : Int) - 1))))) ∧ Ist D (2 ^ n - 1).testBit (aG w g ((v : Int) - 1)) (j + 1) z.2.1 z.2.2)
    (P := fun j z => G Θ (d + 1) 223 14 [some (.ref 124), some (.int (nI v)), some (.int (nI z.2.1)), some (.int (iI (-z.2.2))), some (.int (nI (j + 1))), none] [] z.1 Q) (2 ^ n - 1) ?_ ?_ (sI σ 153 0 0, 0, 0) ⟨Fr.rfl.I (by simp), fun x hx => ?_, ist_0⟩
  · exact start
  · intro ⟨s, b, M⟩ ⟨hf, hs, hI⟩
    have hf : Fr [153] σ s := hf
    have hI : Ist D (2 ^ n - 1).testBit (aG w g ((v : Int) - 1)) (2 ^ n - 1 + 1) b M := hI
    have hn' : s.1 124 38 = nI n := by rw [(hf 124 (by simp)).1]; exact hn
    refine B223_14 ⟨fun _ => k s b hf hI.1 (ist_end hI (by omega)), fun h => absurd ?_ h⟩
    show ((1 : Int32) <<< ((s.1 124 38) &&& 31)) ≤ nI (2 ^ n - 1 + 1)
    rw [hn', pw_n n (by omega)]; exact nI_le (by omega) (by omega)
  · intro i ⟨s, b, M⟩ hi ⟨hf, hs, hI⟩ ih
    have hf : Fr [153] σ s := hf
    have hs : ∀ x, x < i + 1 → s.1 153 x = iI (-(sS 16 x.testBit (aG w g ((v : Int) - 1)))) := hs
    have hI : Ist D (2 ^ n - 1).testBit (aG w g ((v : Int) - 1)) (i + 1) b M := hI
    have hn' : s.1 124 38 = nI n := by rw [(hf 124 (by simp)).1]; exact hn
    show G Θ (d + 1) 223 14 [some (.ref 124), some (.int (nI v)), some (.int (nI b)), some (.int (iI (-M))), some (.int (nI (i + 1))), none] [] s Q
    refine B223_14 ⟨fun h => absurd h ?_, fun _ => ?_⟩
    · rw [hn', pw_n n (by omega)]; exact nI_ge (by omega) (by omega)
    · refine c215 (by omega) (by omega) fun c hc ht hj => ⟨_, rfl, ?_⟩
      have hcn := pw_b (n := n) (by omega) ht
      have hlt := lo_lt (show 0 < i + 1 by omega)
      rw [lo_nI (by omega)]
      have vx := vp_in_nI (show i + 1 < 65536 by omega) (by decide)
      have vr := vp_in_nI (show (i + 1) &&& (i + 1 - 1) < 65536 by omega) (by decide)
      have vc := vp_in_nI (show c < 16 by omega) (by decide)
      have gc := hg c hcn
      have wc := hw c hcn
      refine ⟨vr, vc, ?_⟩
      rw [nI_clamp (show i + 1 < 2147483648 by omega), nI_clamp (show (i + 1) &&& (i + 1 - 1) < 2147483648 by omega), nI_clamp (show c < 2147483648 by omega)]
      have hsb := sS_bit (aG w g ((v : Int) - 1)) hc ht hj
      generalize hr : (i + 1) &&& (i + 1 - 1) = r at hj hlt hsb vr
      obtain ⟨p, hp1, hp2⟩ := hup (i + 1) (by omega)
      have hp1' : s.1 156 (i + 1) = sX p := by rw [(hf 156 (by simp)).1]; exact hp1
      have ecl := lay_eq hO h16 hp2 (show i + 1 < 2 ^ n by omega)
      have bd := aG_b (x := (v : Int) - 1) (w := w) (g := g) hw4 h16 (show i + 1 < 2 ^ n by omega)
      have hMb : 0 ≤ M ∧ M ≤ 64 := by
        obtain ⟨x0, a1, a2, a3⟩ := hI.2.2.1
        have := aG_b (x := (v : Int) - 1) (w := w) (g := g) hw4 h16 (show x0 < 2 ^ n by omega)
        exact ⟨hI.2.1, by omega⟩
      -- behind the sum, one way
      have go : ∀ s2 : Mem, s2 = sI s 153 (i + 1) (iI (-(sS 16 (i + 1).testBit (aG w g ((v : Int) - 1))))) → (vp_in (nI c) 16 ∧ (vp_in (nI (i + 1)) 65536 ∧ (vp_in (nI (i + 1)) 65536 ∧ ((s2.1 156 (i + 1) = nI (i + 1) → (vp_in (nI (i + 1)) 65536 ∧ ((iI (-M) ≤ s2.1 153 (i + 1) → (vp_in (nI (i + 1)) 65536 ∧ ((¬ s2.1 153 (i + 1) = iI (-M) → G Θ (d + 1) 223 137 [some (.ref 124), some (.int (nI v)), some (.int (nI b)), some (.int (iI (-M))), some (.int (nI (i + 1))), none] [] s2 Q) ∧ (s2.1 153 (i + 1) = iI (-M) → G Θ (d + 1) 223 137 [some (.ref 124), some (.int (nI v)), some (.int (nI b &&& nI (i + 1))), some (.int (iI (-M))), some (.int (nI (i + 1))), none] [] s2 Q)))) ∧ (¬ iI (-M) ≤ s2.1 153 (i + 1) → (vp_in (nI (i + 1)) 65536 ∧ G Θ (d + 1) 223 137 [some (.ref 124), some (.int (nI v)), some (.int (nI (i + 1))), some (.int (s2.1 153 (i + 1))), some (.int (nI (i + 1))), none] [] s2 Q))))) ∧ (¬ s2.1 156 (i + 1) = nI (i + 1) → G Θ (d + 1) 223 137 [some (.ref 124), some (.int (nI v)), some (.int (nI b)), some (.int (iI (-M))), some (.int (nI (i + 1))), none] [] s2 Q))))) := by
        intro s2 hs2
        have f2 : Fr [153] σ s2 := by rw [hs2]; exact hf.I (by simp)
        have r2 : ∀ x, x < i + 1 + 1 → s2.1 153 x = iI (-(sS 16 x.testBit (aG w g ((v : Int) - 1)))) := fun x hx => by
          rw [hs2]
          by_cases z : x = i + 1
          · rw [z, sI_at]
          · rw [sI_of _ _ (by omega)]; exact hs x (by omega)
        have e1 : s2.1 156 (i + 1) = sX p := by rw [hs2, sI_of _ _ (by omega)]; exact hp1'
        have e2 := r2 (i + 1) (by omega)
        refine ⟨vc, vx, vx, ?_⟩
        rw [e1, e2, iI_le (by omega) (by omega) (by omega) (by omega), iI_eq (by omega) (by omega) (by omega) (by omega), nI_and]
        have back : ∀ b' M', Ist D (2 ^ n - 1).testBit (aG w g ((v : Int) - 1)) (i + 1 + 1) b' M' → G Θ (d + 1) 223 137 [some (.ref 124), some (.int (nI v)), some (.int (nI b')), some (.int (iI (-M'))), some (.int (nI (i + 1))), none] [] s2 Q := fun b' M' hI' => by
          refine B223_137 ?_
          rw [nI_1]
          exact ih (s2, b', M') ⟨f2, r2, hI'⟩
        refine ⟨fun h1 => ⟨vx, fun h2 => ⟨vx, fun h3 => back b M (ist_skip hI (Or.inr (by omega))), fun h3 => back _ M (ist_both hI (ecl.mp h1) (by omega))⟩, fun h2 => ⟨vx, back _ _ (ist_new hI (by omega) (ecl.mp h1) (by omega))⟩⟩, fun h1 => back b M (ist_skip hI (Or.inl fun q => h1 (ecl.mpr q)))⟩
      rw [(hf 143 (by simp)).1, (hf 144 (by simp)).1, gc.1, wc.1, hs r (by omega), nI_ltI (by omega) (by omega)]
      refine ⟨fun h => ?_, fun h => ?_⟩
      · have e : iI (-(sS 16 r.testBit (aG w g ((v : Int) - 1)))) + nI (w c) = iI (-(sS 16 (i + 1).testBit (aG w g ((v : Int) - 1)))) := by
          rw [iI_nI, iI_add, hsb]
          congr 1
          unfold aG
          rw [if_neg (show ¬ ((v : Int) - 1 < (g c : Int)) by omega)]; omega
        rw [e]
        exact go _ rfl
      · have e : iI (-(sS 16 r.testBit (aG w g ((v : Int) - 1)))) + -nI (w c) = iI (-(sS 16 (i + 1).testBit (aG w g ((v : Int) - 1)))) := by
          rw [iI_nI, iI_neg, iI_add, hsb]
          congr 1
          have e3 : aG w g ((v : Int) - 1) c = (w c : Int) := by
            unfold aG
            rw [if_pos (show ((v : Int) - 1 < (g c : Int)) by omega)]
          rw [e3]; omega
        rw [e]
        exact go _ rfl
  · have : x = 0 := by omega
    subst this
    show (sI σ 153 0 0).1 153 0 = _
    rw [sI_at, sS_0]; rfl
theorem c224 {f : Nat → Nat} {c : Nat} (hc : c < 16) (hw : σ.1 144 c = nI (w c)) (hg : σ.1 143 c = nI (g c) ∧ g c ≤ 240) (hf : σ.1 157 c = nI (f c) ∧ f c ≤ 240) (k : Q (some (.int (nI (gD w g f c)))) σ) : Cm Θ d 224 [.ref 124, .int (nI c)] σ Q := by
  have v := vp_in_nI (show c < 16 by omega) (by decide)
  refine K224 (B224_0 ⟨v, v, v, ?_⟩)
  rw [nI_clamp (by omega), hw, hg.1, hf.1, nI_leI (by omega) (by omega)]
  unfold gD absD at k
  refine ⟨fun h => ⟨v, v, ?_⟩, fun h => ⟨v, v, ?_⟩⟩
  · rw [pk_sub h, pk_mul]
    rw [if_neg (by omega)] at k; exact k
  · rw [pk_sub (by omega), pk_mul]
    rw [if_pos (by omega)] at k; exact k
theorem c242 {f jd : Nat → Nat} {x : Int32} (hn : σ.1 124 38 = nI n) (h16 : n ≤ 16) (hj : ∀ c, c < n → σ.1 141 c = nI (jd c)) (hw : ∀ c, c < n → σ.1 144 c = nI (w c)) (hg : ∀ c, c < n → σ.1 143 c = nI (g c) ∧ g c ≤ 240) (hf : ∀ c, c < n → σ.1 157 c = nI (f c) ∧ f c ≤ 240)
    (k : Q (some (.int (nI (sN n (fun c => if nI (jd c) = x then gD w g f c else 0))))) σ) : Cm Θ (d + 1) 242 [.ref 124, .int x] σ Q := by
  refine K242 (B242_0 ?_)
  refine loopN (P := fun i => G Θ (d + 1) 242 4 [some (.ref 124), some (.int x), some (.int (nI (sN i (fun c => if nI (jd c) = x then gD w g f c else 0)))), some (.int (nI i))] [] σ Q) n ?_ ?_
  · exact B242_4 ⟨fun _ => k, fun h => absurd (by rw [hn]; exact nI_le (Nat.le_refl _) (by omega)) h⟩
  · intro i hi ih
    have v := vp_in_nI (show i < 16 by omega) (by decide)
    refine B242_4 ⟨fun h => absurd h (by rw [hn]; exact nI_ge hi (by omega)), fun _ => ⟨v, ?_⟩⟩
    have e : sN (i + 1) (fun c => if nI (jd c) = x then gD w g f c else 0) = sN i (fun c => if nI (jd c) = x then gD w g f c else 0) + (if nI (jd i) = x then gD w g f i else 0) := rfl
    rw [e] at ih
    rw [nI_clamp (by omega), nI_1, hj i hi]
    refine ⟨fun h => ?_, fun h => ?_⟩
    · rw [if_neg h] at ih
      rw [show ∀ y : Nat, nI y + 0 = nI y from fun y => by rw [show (0 : Int32) = nI 0 from rfl, nI_add]; rfl]
      exact ih
    · rw [if_pos h] at ih
      refine ci (fun _ => c224 (by omega) (hw i hi) (hg i hi) (hf i hi)) ?_
      rw [nI_add]; exact ih
/-- a step of the reference: those of the choice are raised to v -/
def Ras (w g : Nat → Nat) (ov : Nat → Nat → Bool) (T : Nat → Bool) (u : Int) (f : Nat → Nat) : Prop :=
  (∀ x : Int, -1 ≤ x → x < u → MX 16 ov T (aG w g x) (fun c => T c && decide (x < (f c : Int)))) ∧ ∀ c, T c = true → (f c : Int) ≤ u
theorem ras_next {u : Int} {f : Nat → Nat} {v : Nat} {U : Nat → Bool} {ov : Nat → Nat → Bool} (h : Ras w g ov T u f) (hu : u < v) (hm : ∀ c, T c = true → u < g c → v ≤ g c) (hU : MX 16 ov T (aG w g ((v : Int) - 1)) U) (hUT : ∀ c, U c = true → T c = true) : Ras w g ov T v (fun c => if U c = true then v else f c) := by
  refine ⟨fun x h0 hx => ?_, fun c hT => ?_⟩
  · rcases Int.lt_or_le x u with q | q
    · have hx' := h.1 x h0 q
      have hsub := MX_mono hx' (fun c _ _ => aG_mono (by omega) c) hU
      refine MX_congr (fun _ _ => rfl) (fun c hc => ?_) (fun _ _ _ => rfl) hx'
      show (T c && decide (x < (f c : Int))) = (T c && decide (x < ((if U c = true then v else f c : Nat) : Int)))
      cases hUc : U c
      · rw [if_neg (by decide)]
      · have := hsub c hc hUc
        have this : (T c && decide (x < (f c : Int))) = true := this
        rw [this, if_pos rfl, hUT c hUc, decide_eq_true (show x < (v : Int) by omega)]; rfl
    · refine MX_congr (fun _ _ => rfl) (fun c hc => ?_) (fun c _ hT => ?_) hU
      · show U c = (T c && decide (x < ((if U c = true then v else f c : Nat) : Int)))
        cases hUc : U c
        · cases hT : T c
          · rfl
          · have := h.2 c hT
            rw [if_neg (by decide), decide_eq_false (by omega)]; rfl
        · rw [if_pos rfl, hUT c hUc, decide_eq_true hx]; rfl
      · unfold aG
        rcases Int.lt_or_le u (g c) with z | z
        · have := hm c hT z
          rw [if_pos (by omega), if_pos (by omega)]
        · rw [if_neg (by omega), if_neg (by omega)]
  · show ((if U c = true then v else f c : Nat) : Int) ≤ v
    have := h.2 c hT
    split <;> omega
theorem ras_end {u : Int} {f : Nat → Nat} {ov : Nat → Nat → Bool} (h : Ras w g ov T u f) (hm : ∀ c, T c = true → (g c : Int) ≤ u) : KG w g ov T f := by
  intro x h0
  rcases Int.lt_or_le x u with q | q
  · exact h.1 x h0 q
  · refine MX_congr (fun _ _ => rfl) (fun c hc => ?_) (fun _ _ _ => rfl) (MX_neg (a := aG w g x) fun c _ hT => ?_)
    · show false = (T c && decide (x < (f c : Int)))
      cases hT : T c
      · rfl
      · have := h.2 c hT
        rw [decide_eq_false (by omega)]; rfl
    · have := hm c hT
      unfold aG; rw [if_neg (by omega)]; omega
theorem c222 (hn : σ.1 124 38 = nI n) (h16 : n ≤ 16) (hw : ∀ c, c < n → σ.1 144 c = nI (w c) ∧ 1 ≤ w c ∧ w c ≤ 4) (hg : ∀ c, c < n → σ.1 143 c = nI (g c) ∧ g c ≤ 240) (hD : ∀ c, c < n → σ.1 150 c = sX (fun b => D b c)) (hO : DOk n D)
    (k : ∀ σ' f, Fr [153, 156, 157] σ σ' → KG w g D (fun c => decide (c < n)) f → (∀ c, c < n → f c ≤ 240 ∧ σ'.1 157 c = nI (f c)) → Q none σ') : Cm Θ (d + 2) 222 [.ref 124] σ Q := by
  have h65 := pw_le h16
  have hp := Nat.two_pow_pos n
  have et : ∀ c, (2 ^ n - 1).testBit c = decide (c < n) := fun c => Nat.testBit_two_pow_sub_one _ _
  have keep : ∀ s : Mem, Fr [153, 156, 157] σ s → s.1 124 38 = nI n ∧ (∀ c, c < n → s.1 144 c = nI (w c) ∧ 1 ≤ w c ∧ w c ≤ 4) ∧ (∀ c, c < n → s.1 143 c = nI (g c) ∧ g c ≤ 240) := fun s hs =>
    ⟨by rw [(hs 124 (by simp)).1]; exact hn, fun c hc => by rw [(hs 144 (by simp)).1]; exact hw c hc, fun c hc => by rw [(hs 143 (by simp)).1]; exact hg c hc⟩
  -- from a level on
  have main : ∀ m s (u : Nat) f, cN 16 (fun c => decide (c < n) && decide (u < g c)) ≤ m → u ≤ 240 → Fr [153, 156, 157] σ s → (∀ x, x < 2 ^ n → LayU D x s) → Ras w g D (fun c => decide (c < n)) u f → (∀ c, c < n → f c ≤ 240 ∧ s.1 157 c = nI (f c)) →
      Ci Θ (d + 1) 220 [.ref 124, .int (nI u)] s (fun v2 σ2 => G Θ (d + 2) 222 47 [some (.ref 124), some (.int v2), none, none] [] σ2 Q) := by
    intro m
    induction m with
    | zero =>
      intro s u f hm hu hf hup hR hrow
      obtain ⟨k1, k2, k3⟩ := keep s hf
      have h0 := cN_eq0 16 (by omega : cN 16 (fun c => decide (c < n) && decide (u < g c)) = 0)
      have hall : ∀ c, c < n → g c ≤ u := fun c hc => by
        have := h0 c (by omega)
        simp [hc] at this; exact this
      rw [iI_nI u]
      refine c220 (x := (u : Int)) k1 h16 k3 (by omega) (fun _ => ⟨_, rfl, ?_⟩) (fun v _ ⟨c, hc, e⟩ hlt _ => ?_)
      · refine B222_47 ⟨fun _ => k s f hf (ras_end hR fun c hT => ?_) hrow, fun h => absurd (by decide) h⟩
        have := hall c (of_decide_eq_true hT); omega
      · have := hall c hc; omega
    | succ m ih =>
      intro s u f hm hu hf hup hR hrow
      obtain ⟨k1, k2, k3⟩ := keep s hf
      rw [iI_nI u]
      refine c220 (x := (u : Int)) k1 h16 k3 (by omega) (fun h => ⟨_, rfl, ?_⟩) (fun v b1 b2 b3 b4 => ⟨_, rfl, ?_⟩)
      · exact B222_47 ⟨fun _ => k s f hf (ras_end hR fun c hT => h c (of_decide_eq_true hT)) hrow, fun h => absurd (by decide) h⟩
      · refine B222_47 ⟨fun h => absurd h (nI_pos (by omega)), fun _ => ?_⟩
        refine c223 b1 k1 h16 k2 k3 hO hup fun σ2 b f2 hb hM => ⟨_, rfl, ?_⟩
        have hf2 : Fr [153, 156, 157] σ σ2 := hf.tr (f2.mono (by simp))
        have hbn : ∀ c, b.testBit c = true → c < n := fun c hc => by
          have := hM.1.1 c (tb_16 hb hc) hc
          rw [et] at this; exact of_decide_eq_true this
        refine loopS (α := Mem) (I := fun j t => Fr [157] σ2 t ∧ ∀ c, t.1 157 c = if c < j ∧ b.testBit c = true then nI v else s.1 157 c) (P := fun j t => G Θ (d + 2) 222 59 [some (.ref 124), some (.int (nI v)), some (.int (nI b)), some (.int (nI j))] [] t Q) n ?_ ?_ σ2 ⟨Fr.rfl, fun c => by rw [(f2 157 (by simp)).1]; exact (if_neg (fun z => absurd z.1 (Nat.not_lt_zero _))).symm⟩
        · intro t ⟨g1, g2⟩
          have hft : Fr [153, 156, 157] σ t := hf2.tr (g1.mono (by simp))
          obtain ⟨j1, j2, j3⟩ := keep t hft
          refine B222_59 ⟨fun _ => ?_, fun h => absurd (by rw [j1]; exact nI_le (Nat.le_refl _) (by omega)) h⟩
          refine ih t v (fun c => if b.testBit c = true then v else f c) ?_ b1 hft (fun x hx => LayU_fr (LayU_fr (hup x hx) f2 (by decide)) g1 (by decide)) ?_ (fun c hc => ?_)
          · obtain ⟨c2, e1, e2⟩ := b2
            have := cN_lt (p := fun c => decide (c < n) && decide (v < g c)) (q := fun c => decide (c < n) && decide (u < g c)) 16 (fun c _ hh => by
              simp only [Bool.and_eq_true, decide_eq_true_eq] at hh ⊢
              exact ⟨hh.1, by omega⟩) ⟨c2, by omega, by simp [e2], by simp [e1, e2]; omega⟩
            omega
          · exact ras_next hR b3 (fun c hT => b4 c (of_decide_eq_true hT)) (MX_congr (fun c _ => et c) (fun _ _ => rfl) (fun _ _ _ => rfl) hM) (fun c hc => decide_eq_true (hbn c hc))
          · show (if b.testBit c = true then v else f c) ≤ 240 ∧ t.1 157 c = nI (if b.testBit c = true then v else f c)
            rw [g2 c]
            by_cases z : b.testBit c = true
            · rw [if_pos z, if_pos ⟨hc, z⟩]; exact ⟨b1, rfl⟩
            · rw [if_neg z, if_neg (fun y => z y.2)]; exact hrow c hc
        · intro j t hj ⟨g1, g2⟩ ih2
          have hft : Fr [153, 156, 157] σ t := hf2.tr (g1.mono (by simp))
          obtain ⟨j1, j2, j3⟩ := keep t hft
          have v' := vp_in_nI (show j < 16 by omega) (by decide)
          refine B222_59 ⟨fun h => absurd h (by rw [j1]; exact nI_ge hj (by omega)), fun _ => ?_⟩
          rw [bt_shr _ (by omega), bt_nI _ (by omega), nI_1, nI_clamp (by omega), bt_eq1]
          refine ⟨fun h => ih2 t ⟨g1, fun c => ?_⟩, fun h => ⟨v', ih2 _ ⟨g1.I (by simp), fun c => ?_⟩⟩⟩
          · rw [g2 c]
            by_cases y : b.testBit c = true
            · have : c ≠ j := fun e => h (e ▸ y)
              by_cases x : c < j
              · rw [if_pos ⟨x, y⟩, if_pos ⟨by omega, y⟩]
              · rw [if_neg (fun q => x q.1), if_neg (fun q => by omega)]
            · rw [if_neg (fun q => y q.2), if_neg (fun q => y q.2)]
          · by_cases z : c = j
            · subst z
              rw [sI_at, if_pos ⟨by omega, h⟩]
            · rw [sI_of _ _ (by omega), g2 c]
              by_cases y : b.testBit c = true
              · by_cases x : c < j
                · rw [if_pos ⟨x, y⟩, if_pos ⟨by omega, y⟩]
                · rw [if_neg (fun q => x q.1), if_neg (fun q => by omega)]
              · rw [if_neg (fun q => y q.2), if_neg (fun q => y q.2)]
  refine K222 (B222_0 ?_)
  refine c221 hn h16 hD fun σ1 f1 hup => ⟨rfl, ?_⟩
  have hf1 : Fr [153, 156, 157] σ σ1 := f1.mono (by simp)
  obtain ⟨k1, k2, k3⟩ := keep σ1 hf1
  -- the first level for all
  have rows : ∀ y : Int32, ∀ K : (s : Mem) → Fr [153, 156, 157] σ s → (∀ x, x < 2 ^ n → LayU D x s) → (∀ c, c < n → s.1 157 c = y) → G Θ (d + 2) 222 12 [some (.ref 124), some (.int y), some (.int (nI n)), none] [] s Q, G Θ (d + 2) 222 12 [some (.ref 124), some (.int y), some (.int (nI 0)), none] [] σ1 Q := by
    intro y K
    refine loopS (α := Mem) (I := fun j t => Fr [157] σ1 t ∧ ∀ c, c < j → t.1 157 c = y) (P := fun j t => G Θ (d + 2) 222 12 [some (.ref 124), some (.int y), some (.int (nI j)), none] [] t Q) n ?_ ?_ σ1 ⟨Fr.rfl, fun c h => absurd h (Nat.not_lt_zero _)⟩
    · intro t ⟨g1, g2⟩
      exact K t (hf1.tr (g1.mono (by simp))) (fun x hx => LayU_fr (hup x hx) g1 (by decide)) g2
    · intro j t hj ⟨g1, g2⟩ ih2
      have hft : Fr [153, 156, 157] σ t := hf1.tr (g1.mono (by simp))
      obtain ⟨j1, j2, j3⟩ := keep t hft
      have v' := vp_in_nI (show j < 16 by omega) (by decide)
      refine B222_12 ⟨fun h => absurd h (by rw [j1]; exact nI_ge hj (by omega)), fun _ => ⟨v', ?_⟩⟩
      rw [nI_1, nI_clamp (by omega)]
      refine ih2 _ ⟨g1.I (by simp), fun c hc => ?_⟩
      by_cases z : c = j
      · rw [z, sI_at]
      · rw [sI_of _ _ (by omega)]; exact g2 c (by omega)
  have zm : (-1 : Int32) = iI (-1) := rfl
  rw [zm]
  refine c220 k1 h16 k3 (by decide) (fun h => ⟨_, rfl, ?_⟩) (fun v b1 b2 b3 b4 => ⟨_, rfl, ?_⟩)
  · have hn0 : n = 0 := by
      rcases Nat.eq_zero_or_pos n with z | z
      · exact z
      · have := h 0 z; omega
    refine rows (-1) fun s hf hup hrow => ?_
    obtain ⟨j1, j2, j3⟩ := keep s hf
    refine B222_12 ⟨fun _ => ⟨fun h => absurd h (by decide), fun _ => ?_⟩, fun h => absurd (by rw [j1]; exact nI_le (Nat.le_refl _) (by omega)) h⟩
    refine B222_47 ⟨fun _ => k s (fun _ => 0) hf (fun x _ => ?_) (fun c hc => by omega), fun h => absurd (by decide) h⟩
    refine MX_congr (fun _ _ => rfl) (fun c _ => ?_) (fun _ _ _ => rfl) (MX_neg (a := aG w g x) fun c _ hT => ?_)
    · show false = (decide (c < n) && _)
      rw [decide_eq_false (by omega)]; rfl
    · have := of_decide_eq_true hT; omega
  · refine rows (nI v) fun s hf hup hrow => ?_
    obtain ⟨j1, j2, j3⟩ := keep s hf
    refine B222_12 ⟨fun _ => ⟨fun _ => ?_, fun h => absurd (nI_pos' (by omega)) h⟩, fun h => absurd (by rw [j1]; exact nI_le (Nat.le_refl _) (by omega)) h⟩
    refine main _ s v (fun _ => v) (Nat.le_refl _) b1 hf hup ⟨fun x h0 hx => ?_, fun c _ => Int.le_refl _⟩ (fun c hc => ⟨b1, hrow c hc⟩)
    refine MX_congr (fun _ _ => rfl) (fun c _ => ?_) (fun _ _ _ => rfl) (MX_pos (T := fun c => decide (c < n)) (a := aG w g x) fun c _ hT => ?_)
    · show decide (c < n) = (decide (c < n) && decide (x < ((v : Nat) : Int)))
      rw [decide_eq_true (show x < (v : Int) by omega), Bool.and_true]
    · have hc := of_decide_eq_true hT
      have := b4 c hc (by omega)
      have := (hw c hc).2.1
      unfold aG; rw [if_pos (by omega)]; omega
end rgaps
