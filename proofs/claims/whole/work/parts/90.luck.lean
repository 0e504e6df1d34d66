/-! CONTRACTS: how seldom by luck -/
def sufL (S : Nat → Nat) : Nat → Nat → List Int
  | 0, _ => []
  | n + 1, f => (S f : Int) :: sufL S n (f + 1)
theorem suf_len (S : Nat → Nat) : ∀ n f, (sufL S n f).length = n
  | 0, _ => rfl
  | n + 1, f => by show (sufL S n (f + 1)).length + 1 = n + 1; rw [suf_len S n (f + 1)]
theorem suf_app (S : Nat → Nat) (b : Nat) : ∀ a f, sufL S (a + b) f = sufL S a f ++ sufL S b (f + a)
  | 0, f => by rw [Nat.zero_add]; rfl
  | a + 1, f => by
    rw [show a + 1 + b = (a + b) + 1 from by omega]
    show (S f : Int) :: sufL S (a + b) (f + 1) = (S f : Int) :: (sufL S a (f + 1) ++ sufL S b (f + (a + 1)))
    rw [suf_app S b a (f + 1), show f + 1 + a = f + (a + 1) from by omega]
theorem suf_congr {S S' : Nat → Nat} : ∀ n f f', (∀ j, j < n → S (f + j) = S' (f' + j)) → sufL S n f = sufL S' n f'
  | 0, _, _, _ => rfl
  | n + 1, f, f', h => by
    show (S f : Int) :: sufL S n (f + 1) = (S' f' : Int) :: sufL S' n (f' + 1)
    have h0 := h 0 (by omega)
    rw [Nat.add_zero, Nat.add_zero] at h0
    rw [h0, suf_congr n (f + 1) (f' + 1) (fun j hj => by have := h (j + 1) (by omega); rw [show f + 1 + j = f + (j + 1) from by omega, show f' + 1 + j = f' + (j + 1) from by omega]; exact this)]
theorem suf_mem {S : Nat → Nat} {y : Int} : ∀ n f, y ∈ sufL S n f → ∃ j, f ≤ j ∧ j < f + n ∧ y = (S j : Int)
  | 0, _, h => absurd h List.not_mem_nil
  | n + 1, f, h => by
    rcases List.mem_cons.mp h with h | h
    · exact ⟨f, Nat.le_refl _, by omega, h⟩
    · obtain ⟨j, h1, h2, h3⟩ := suf_mem n (f + 1) h
      exact ⟨j, by omega, by omega, h3⟩
theorem suf_desc {S : Nat → Nat} : ∀ n f, (∀ i j, f ≤ i → i < j → j < f + n → S j ≤ S i) → desc (sufL S n f)
  | 0, _, _ => trivial
  | n + 1, f, h => ⟨fun y hy => by
      obtain ⟨j, h1, h2, h3⟩ := suf_mem n (f + 1) hy
      have := h f j (Nat.le_refl _) (by omega) (by omega)
      rw [h3]; omega, suf_desc n (f + 1) fun i j a b c => h i j (by omega) b (by omega)⟩
theorem suf_sum (S : Nat → Nat) : ∀ n f, sL2 (sufL S n f) = (sN (f + n) S : Int) - (sN f S : Int)
  | 0, f => by show (0 : Int) = _; rw [Nat.add_zero]; omega
  | n + 1, f => by
    show (S f : Int) + sL2 (sufL S n (f + 1)) = _
    rw [suf_sum S n (f + 1), show f + 1 + n = f + (n + 1) from by omega]
    have : sN (f + 1) S = sN f S + S f := rfl
    omega
theorem suf_take (S : Nat → Nat) {n s f : Nat} (h : s ≤ n) : sL2 ((sufL S n f).take s) = (sN (f + s) S : Int) - (sN f S : Int) := by
  have e := suf_app S (n - s) s f
  rw [show s + (n - s) = n from by omega] at e
  rw [e, List.take_left' (suf_len S s f), suf_sum]
theorem suf_drop (S : Nat → Nat) {n s f : Nat} (h : s ≤ n) : sL2 ((sufL S n f).drop (n - s)) = (sN (f + n) S : Int) - (sN (f + n - s) S : Int) := by
  have e := suf_app S s (n - s) f
  rw [show n - s + s = n from by omega] at e
  rw [e, List.drop_left' (suf_len S (n - s) f), suf_sum, show f + (n - s) + s = f + n from by omega, show f + (n - s) = f + n - s from by omega]
/-! choices of some of all -/
def chW (a s : Nat) : Nat → Nat
  | 0 => 1
  | i + 1 => chW a s i * (a - s + (i + 1)) / (i + 1)
theorem chW_tab : allB 17 (fun a => allB 17 (fun s => !Nat.ble s a || (Nat.beq (chW a s s) (bin a s) && allB 18 (fun i => !Nat.ble i s || Nat.ble (chW a s i) 100000)))) = true := by decide +kernel
theorem chW_ok {a s : Nat} (ha : a < 17) (hs : s ≤ a) : chW a s s = bin a s ∧ ∀ i, i ≤ s → chW a s i ≤ 100000 := by
  have h := (allB_iff 17).mp ((allB_iff 17).mp chW_tab a ha) s (by omega)
  rw [Nat.ble_eq_true_of_le hs] at h
  simp only [Bool.not_true, Bool.false_or, Bool.and_eq_true] at h
  refine ⟨Nat.eq_of_beq_eq_true h.1, fun i hi => ?_⟩
  have h2 := (allB_iff 18).mp h.2 i (by omega)
  rw [Nat.ble_eq_true_of_le hi] at h2
  simp only [Bool.not_true, Bool.false_or] at h2
  exact Nat.le_of_ble_eq_true h2
section luck
variable {Θ : Th} {d : Nat} {σ : Mem} {Q : Po} {n : Nat} {S : Nat → Nat}
theorem c39 {a s : Nat} (ha : a < 17) (hs : s ≤ a) (k : Q (some (.int (nI (bin a s)))) σ) : Cm Θ d 39 [.int (nI a), .int (nI s)] σ Q := by
  obtain ⟨h1, h2⟩ := chW_ok ha hs
  refine K39 (B39_0 ?_)
  refine loopN (P := fun i => G Θ d 39 4 [some (.int (nI a)), some (.int (nI s)), some (.int (nI (chW a s i))), some (.int (nI (i + 1)))] [] σ Q) s ?_ ?_
  · rw [h1]
    exact B39_4 ⟨fun _ => k, fun h => absurd (nI_lt (Nat.lt_succ_self s) (by omega)) h⟩
  · intro i hi ih
    refine B39_4 ⟨fun h => absurd h (nI_nlt (by omega) (by omega)), fun _ => ⟨nI_ne0 (by omega) (by omega), ?_⟩⟩
    have b := h2 i (by omega)
    have b2 : chW a s i * (a - s + (i + 1)) ≤ 100000 * 40 := Nat.mul_le_mul b (by omega)
    rw [pk_sub hs, nI_add, pk_mul, pk_div (by omega) (by omega) (by omega), nI_1]
    exact ih
/-- what the class holds as it counts: falling shares, and their sums -/
def DrC (n : Nat) (S : Nat → Nat) (σ : Mem) : Prop := σ.1 110 6 = nI n ∧ (∀ j, j < n → σ.1 112 j = nI (S j)) ∧ ∀ j, j ≤ n → σ.1 113 j = nI (sN j S)
theorem c38 (h16 : n ≤ 16) (hS : ∀ j, j < n → S j ≤ 960) (hd : ∀ i j, i < j → j < n → S j ≤ S i) (hC : DrC n S σ) : ∀ (m f s : Nat) (mm : Int) (Q : Po), f + m = n → -(960 * (f : Int)) ≤ mm → mm ≤ 15360 → Q (some (.int (nI (cw (sufL S m f) s mm)))) σ → s < 65536 →
    Cm Θ (d + m + 1) 38 [.ref 110, .int (nI f), .int (nI s), .int (iI mm)] σ Q := by
  have hb : ∀ j, j ≤ n → sN j S ≤ 15360 := fun j hj => by
    have := sN_b (f := S) (b := 960) j (fun k hk => hS k (by omega)); omega
  intro m
  induction m with
  | zero =>
    intro f s mm Q hf h1 h2 k hs
    have hfn : f = n := by omega
    refine K38 (B38_0 ⟨fun h => absurd h (nI_pos (by omega)), fun _ => ?_⟩)
    rw [hC.1, pk_sub (by omega), nI_ltI (by omega) (by omega)]
    refine ⟨fun h => ?_, fun h => ?_⟩
    · rw [cw_few _ _ _ (by rw [suf_len]; omega)] at k; exact k
    · have s0 : s = 0 := by omega
      subst s0
      have v1 := vp_in_nI (show f < 17 by omega) (by decide)
      have v2 := vp_in_nI (show n < 17 by omega) (by decide)
      have en : nI f + nI 0 = nI f := by rw [nI_add]; rfl
      have en2 : nI n - nI 0 = nI n := by rw [pk_sub (by omega)]; rfl
      rw [en, en2]
      refine ⟨v1, v1, ?_⟩
      rw [nI_clamp (by omega), nI_clamp (by omega), hC.2.2 f (by omega), hC.2.2 n (by omega), pk_sub (Nat.le_refl _), pk_sub (Nat.le_refl _), Nat.sub_self, Nat.sub_self, iI_nI 0, iI_le (by omega) (by omega) (by omega) (by omega), iI_lt (by omega) (by omega) (by omega) (by omega)]
      have k0 : cw (sufL S 0 f) 0 mm = if mm ≤ 0 then 1 else 0 := rfl
      rw [k0] at k
      refine ⟨fun h3 => ⟨v2, v2, fun h4 => absurd h4 (by omega), fun _ => ?_⟩, fun h3 => ?_⟩
      · rw [if_pos (by omega)] at k
        rw [← iI_nI 0]
        refine ci (fun _ => c39 (a := n - f) (s := 0) (by omega) (by omega)) ?_
        have : bin (n - f) 0 = 1 := by cases n - f <;> rfl
        rw [this]; exact k
      · rw [if_neg (by omega)] at k; exact k
  | succ m ih =>
    intro f s mm Q hf h1 h2 k hs
    refine K38 (B38_0 ⟨fun h => absurd h (nI_pos (by omega)), fun _ => ?_⟩)
    rw [hC.1, pk_sub (by omega), nI_ltI (by omega) (by omega)]
    refine ⟨fun h => ?_, fun h => ?_⟩
    · rw [cw_few _ _ _ (by rw [suf_len]; omega)] at k; exact k
    · have hsm : s ≤ m + 1 := by omega
      have v1 := vp_in_nI (show f + s < 17 by omega) (by decide)
      have v2 := vp_in_nI (show f < 17 by omega) (by decide)
      have v3 := vp_in_nI (show n < 17 by omega) (by decide)
      have v4 := vp_in_nI (show n - s < 17 by omega) (by decide)
      rw [nI_add, pk_sub (show s ≤ n by omega)]
      refine ⟨v1, v2, ?_⟩
      have b1 := hb (f + s) (by omega)
      have b2 := hb f (by omega)
      have b3 := hb n (by omega)
      have b4 := hb (n - s) (by omega)
      have t1 := suf_take S (f := f) hsm
      have t2 := suf_drop S (f := f) hsm
      rw [show f + (m + 1) = n from hf] at t2
      have hdl : desc (sufL S (m + 1) f) := suf_desc _ _ fun i j a b c => hd i j b (by omega)
      rw [nI_clamp (by omega), nI_clamp (show f < 2147483648 by omega), nI_clamp (show n < 2147483648 by omega), nI_clamp (show n - s < 2147483648 by omega), hC.2.2 _ (show f + s ≤ n by omega), hC.2.2 _ (show f ≤ n by omega), hC.2.2 _ (Nat.le_refl n), hC.2.2 _ (show n - s ≤ n by omega), iI_nI (sN (f + s) S), iI_nI (sN f S), iI_nI (sN n S), iI_nI (sN (n - s) S), iI_sub, iI_sub, iI_le (by omega) (by omega) (by omega) (by omega), iI_lt (by omega) (by omega) (by omega) (by omega)]
      refine ⟨fun h3 => ⟨v3, v4, fun h4 => ?_, fun h4 => ?_⟩, fun h3 => ?_⟩
      · -- neither decides
        have v5 := vp_in_nI (show f < 16 by omega) (by decide)
        cases s with
        | zero =>
          exfalso
          rw [Nat.add_zero] at h3
          rw [Nat.sub_zero] at h4
          omega
        | succ s =>
          refine ⟨v5, ?_⟩
          have sf := hS f (by omega)
          rw [nI_1, nI_pred, hC.2.1 f (by omega), iI_nI (S f), iI_sub]
          have e : cw (sufL S (m + 1) f) (s + 1) mm = cw (sufL S m (f + 1)) s (mm - (S f : Int)) + cw (sufL S m (f + 1)) (s + 1) mm := rfl
          rw [e] at k
          refine ih (f + 1) s (mm - (S f : Int)) _ (by omega) (by omega) (by omega) ⟨_, rfl, ?_⟩ (by omega)
          refine ih (f + 1) (s + 1) mm _ (by omega) (by omega) (by omega) ⟨_, rfl, ?_⟩ (by omega)
          show Q (some (.int (nI (cw (sufL S m (f + 1)) s (mm - (S f : Int))) + nI (cw (sufL S m (f + 1)) (s + 1) mm)))) σ
          rw [nI_add]; exact k
      · rw [cw_all _ hdl s mm (by rw [suf_len]; exact hsm) (by rw [suf_len, t2]; omega), suf_len] at k
        refine ci (fun _ => c39 (a := n - f) (s := s) (by omega) (by omega)) ?_
        rw [show n - f = m + 1 by omega]; exact k
      · rw [cw_max _ hdl s mm (by rw [suf_len]; exact hsm) (by rw [t1]; omega)] at k; exact k
theorem c37 {r s : Nat} {mm : Int} {f : Nat → Nat} (hr : shq r = (20, 16)) (hr2 : r ≠ 110 ∧ r ≠ 112 ∧ r ≠ 113) (h16 : n ≤ 16) (hf : ∀ c, c < n → σ.1 r c = nI (f c) ∧ f c ≤ 960) (hm : 0 ≤ mm ∧ mm ≤ 15360) (hs : s < 65536) (hz0 : σ.1 113 0 = nI 0)
    (k : ∀ σ', Fr [110, 112, 113] σ σ' → (∀ j, j ≠ 6 → σ'.1 110 j = σ.1 110 j) → σ'.1 113 0 = nI 0 → Q (some (.int (nI (cw (rowL n (fun c => (f c : Int))) s mm)))) σ') : Cm Θ (d + n + 2) 37 [.ref 110, .ref r, .int (nI n), .int (nI s), .int (iI mm)] σ Q := by
  refine K37 (n1 := 16) (B37_0 hr ?_)
  -- the sorted rows
  have sums : ∀ (s0 : Mem) (S : Nat → Nat), Fr [110, 112, 113] σ s0 → (∀ j, j ≠ 6 → s0.1 110 j = σ.1 110 j) → s0.1 110 6 = nI n → (∀ j, j < n → s0.1 112 j = nI (S j) ∧ S j ≤ 960) → (∀ i j, i < j → j < n → S j ≤ S i) → (sufL S n 0).Perm (rowL n (fun c => (f c : Int))) → s0.1 113 0 = nI 0 →
      G Θ (d + n + 2) 37 81 [some (.ref 110), none, some (.int (nI n)), some (.int (nI s)), some (.int (iI mm)), some (.int (nI 0)), none] [] s0 Q := by
    intro s0 S g0 g1 g2 g3 g4 g5 g6
    refine loopS (α := Mem) (I := fun i t => Fr [113] s0 t ∧ ∀ j, j ≤ i → t.1 113 j = nI (sN j S)) (P := fun i t => G Θ (d + n + 2) 37 81 [some (.ref 110), none, some (.int (nI n)), some (.int (nI s)), some (.int (iI mm)), some (.int (nI i)), none] [] t Q) n ?_ ?_ s0 ⟨Fr.rfl, fun j hj => (by rw [show j = 0 by omega]; exact g6)⟩
    · intro t ⟨t1, t2⟩
      refine B37_81 ⟨fun _ => ?_, fun h => absurd (nI_le (Nat.le_refl n) (by omega)) h⟩
      refine c38 (d := d) (n := n) (S := S) h16 (fun j hj => (g3 j hj).2) g4 ⟨by rw [(t1 110 (by simp)).1]; exact g2, fun j hj => by rw [(t1 112 (by simp)).1]; exact (g3 j hj).1, t2⟩ n 0 s mm _ (by omega) (by omega) (by omega) ⟨_, rfl, ?_⟩ hs
      rw [cw_perm g5]
      exact k t (g0.tr (t1.mono (by simp))) (fun j hj => by rw [(t1 110 (by simp)).1]; exact g1 j hj) (t2 0 (Nat.zero_le _))
    · intro i t hi ⟨t1, t2⟩ ih
      have v1 := vp_in_nI (show i < 17 by omega) (by decide)
      have v2 := vp_in_nI (show i < 16 by omega) (by decide)
      have v3 := vp_in_nI (show i + 1 < 17 by omega) (by decide)
      refine B37_81 ⟨fun h => absurd h (nI_ge hi (by omega)), fun _ => ?_⟩
      rw [nI_1]
      refine ⟨v1, v2, v3, ?_⟩
      rw [nI_clamp (by omega), nI_clamp (show i < 2147483648 by omega), t2 i (Nat.le_refl _), (t1 112 (by simp)).1, (g3 i hi).1, nI_add]
      refine ih _ ⟨t1.I (by simp), fun j hj => ?_⟩
      by_cases z : j = i + 1
      · rw [z, sI_at]; rfl
      · rw [sI_of _ _ (by omega)]; exact t2 j (by omega)
  refine loopS (α := Mem × (Nat → Nat)) (I := fun c z => Fr [110, 112] σ z.1 ∧ (∀ j, j ≠ 6 → z.1.1 110 j = σ.1 110 j) ∧ z.1.1 110 6 = nI n ∧ (∀ j, j < c → z.1.1 112 j = nI (z.2 j) ∧ z.2 j ≤ 960) ∧ (∀ i j, i < j → j < c → z.2 j ≤ z.2 i) ∧ (sufL z.2 c 0).Perm (rowL c (fun c => (f c : Int)))) (P := fun c z => G Θ (d + n + 2) 37 8 [some (.ref 110), some (.ref r), some (.int (nI n)), some (.int (nI s)), some (.int (iI mm)), some (.int (nI c)), none] [] z.1 Q) n ?_ ?_ (sI σ 110 6 (nI n), fun _ => 0) ⟨Fr.rfl.I (by simp), fun j hj => sI_of _ _ (by omega), sI_at _ _ _ _, fun j h => absurd h (Nat.not_lt_zero _), fun i j _ h => absurd h (Nat.not_lt_zero _), List.Perm.refl _⟩
  · intro ⟨s0, S⟩ ⟨g0, g1, g2, g3, g4, g5⟩
    have g0 : Fr [110, 112] σ s0 := g0
    refine B37_8 hr ⟨fun _ => ?_, fun h => absurd (nI_le (Nat.le_refl n) (by omega)) h⟩
    -- the first sum stands at 0: never written, but for 0
    exact sums s0 S (g0.mono (by simp)) g1 g2 g3 g4 g5 (by rw [(g0 113 (by simp)).1]; exact hz0)
  · intro c ⟨s0, S⟩ hc ⟨g0, g1, g2, g3, g4, g5⟩ ih
    have g0 : Fr [110, 112] σ s0 := g0
    have g1 : ∀ j, j ≠ 6 → s0.1 110 j = σ.1 110 j := g1
    have g2 : s0.1 110 6 = nI n := g2
    have g3 : ∀ j, j < c → s0.1 112 j = nI (S j) ∧ S j ≤ 960 := g3
    have g4 : ∀ i j, i < j → j < c → S j ≤ S i := g4
    have g5 : (sufL S c 0).Perm (rowL c (fun c => (f c : Int))) := g5
    have fc := hf c hc
    refine B37_8 hr ⟨fun h => absurd h (nI_ge hc (by omega)), fun _ => ?_⟩
    have inner : ∀ at' t, at' ≤ c → Fr [112] s0 t → (∀ j, j < at' → t.1 112 j = nI (S j)) → (∀ j, at' ≤ j → j < c → t.1 112 (j + 1) = nI (S j) ∧ S j < f c) → G Θ (d + n + 2) 37 18 [some (.ref 110), some (.ref r), some (.int (nI n)), some (.int (nI s)), some (.int (iI mm)), some (.int (nI c)), some (.int (nI at'))] [] t Q := by
      intro at'
      have done : ∀ a t, a ≤ c → Fr [112] s0 t → (∀ j, j < a → t.1 112 j = nI (S j)) → (∀ j, a ≤ j → j < c → t.1 112 (j + 1) = nI (S j) ∧ S j < f c) → (∀ j, j < a → f c ≤ S j) → G Θ (d + n + 2) 37 8 [some (.ref 110), some (.ref r), some (.int (nI n)), some (.int (nI s)), some (.int (iI mm)), some (.int (nI (c + 1))), none] [] (sI t 112 a (nI (f c))) Q := by
        intro a t ha ft r1 r2 r3
        let S' : Nat → Nat := fun j => if j < a then S j else if j = a then f c else S (j - 1)
        have e1 : ∀ j, j < a → S' j = S j := fun j hj => if_pos hj
        have e2 : S' a = f c := by show (if a < a then S a else if a = a then f c else S (a - 1)) = f c; rw [if_neg (Nat.lt_irrefl _), if_pos rfl]
        have e3 : ∀ j, a < j → S' j = S (j - 1) := fun j hj => by show (if j < a then S j else if j = a then f c else S (j - 1)) = S (j - 1); rw [if_neg (by omega), if_neg (by omega)]
        refine ih (sI t 112 a (nI (f c)), S') ⟨(g0.tr (ft.mono (by simp))).I (by simp), fun j hj => ?_, ?_, fun j hj => ?_, fun i j hij hj => ?_, ?_⟩
        · show (sI t 112 a (nI (f c))).1 110 j = _
          rw [sI_of _ _ (by omega), (ft 110 (by simp)).1]; exact g1 j hj
        · show (sI t 112 a (nI (f c))).1 110 6 = _
          rw [sI_of _ _ (by omega), (ft 110 (by simp)).1]; exact g2
        · show (sI t 112 a (nI (f c))).1 112 j = nI (S' j) ∧ S' j ≤ 960
          rcases Nat.lt_trichotomy j a with q | q | q
          · rw [e1 j q, sI_of _ _ (by omega)]; exact ⟨r1 j q, (g3 j (by omega)).2⟩
          · subst q
            rw [e2, sI_at]; exact ⟨rfl, fc.2⟩
          · rw [e3 j q, sI_of _ _ (by omega)]
            have := r2 (j - 1) (by omega) (by omega)
            rw [show j - 1 + 1 = j by omega] at this
            exact ⟨this.1, (g3 (j - 1) (by omega)).2⟩
        · show S' j ≤ S' i
          rcases Nat.lt_trichotomy j a with q | q | q
          · rw [e1 j q, e1 i (by omega)]; exact g4 i j hij (by omega)
          · subst q
            rw [e2, e1 i hij]; exact r3 i hij
          · rw [e3 j q]
            rcases Nat.lt_trichotomy i a with y | y | y
            · rw [e1 i y]
              rcases Nat.lt_or_ge i (j - 1) with x | x
              · exact g4 i (j - 1) x (by omega)
              · omega
            · subst y
              rw [e2]; have := (r2 (j - 1) (by omega) (by omega)).2; omega
            · rw [e3 i y]; exact g4 (i - 1) (j - 1) (by omega) (by omega)
        · show (sufL S' (c + 1) 0).Perm ((f c : Int) :: rowL c (fun c => (f c : Int)))
          have p1 : sufL S' (c + 1) 0 = sufL S a 0 ++ (f c : Int) :: sufL S (c - a) a := by
            have h1 := suf_app S' (c - a + 1) a 0
            rw [show a + (c - a + 1) = c + 1 by omega] at h1
            rw [h1, suf_congr a 0 0 (S' := S) (fun j hj => by rw [Nat.zero_add]; exact e1 j hj)]
            congr 1
            show (S' (0 + a) : Int) :: sufL S' (c - a) (0 + a + 1) = _
            rw [Nat.zero_add, e2, suf_congr (c - a) (a + 1) a (S' := S) (fun j hj => by rw [e3 _ (by omega)]; congr 1; omega)]
          have p2 := suf_app S (c - a) a 0
          rw [show a + (c - a) = c by omega, Nat.zero_add] at p2
          rw [p1]
          exact (List.perm_middle).trans (List.Perm.cons _ (by rw [← p2]; exact g5))
      induction at' with
      | zero =>
        intro t ha ft r1 r2
        have vc := vp_in_nI (show c < 16 by omega) (by decide)
        refine B37_18 hr ⟨fun _ => ⟨vc, vp_in_nI (show 0 < 16 by omega) (by decide), ?_⟩, fun h => absurd (nI_le (Nat.le_refl 0) (by decide)) h⟩
        rw [nI_clamp (by omega), nI_clamp (by omega), nI_1, (ft r (by simp; omega)).1, (g0 r (by simp; omega)).1, fc.1]
        exact done 0 t ha ft r1 r2 (fun j h => absurd h (Nat.not_lt_zero _))
      | succ a ih2 =>
        intro t ha ft r1 r2
        have vc := vp_in_nI (show c < 16 by omega) (by decide)
        have va := vp_in_nI (show a < 16 by omega) (by decide)
        have va1 := vp_in_nI (show a + 1 < 16 by omega) (by decide)
        have sa := g3 a (by omega)
        refine B37_18 hr ⟨fun h => absurd h (nI_nle (by omega) (by omega)), fun _ => ?_⟩
        rw [nI_pred, pk_m1]
        refine ⟨va, vc, ?_⟩
        rw [nI_clamp (show a < 2147483648 by omega), nI_clamp (show c < 2147483648 by omega), nI_clamp (show a + 1 < 2147483648 by omega), nI_1, (ft r (by simp; omega)).1, (g0 r (by simp; omega)).1, fc.1, r1 a (by omega), nI_leI (by omega) (by omega)]
        refine ⟨fun h => ⟨vc, va1, done (a + 1) t ha ft r1 r2 fun j hj => ?_⟩, fun h => ⟨va, va1, ?_⟩⟩
        · rcases Nat.lt_or_ge j a with q | q
          · have := g4 j a q (by omega); omega
          · have : j = a := by omega
            subst this; exact h
        · refine ih2 _ (by omega) (ft.I (by simp)) (fun j hj => by rw [sI_of _ _ (by omega)]; exact r1 j (by omega)) (fun j hj hj2 => ?_)
          by_cases z : j = a
          · subst z; rw [sI_at]; exact ⟨rfl, by omega⟩
          · rw [sI_of _ _ (by omega)]; exact r2 j (by omega) hj2
    exact inner c s0 (Nat.le_refl _) Fr.rfl (fun j hj => (g3 j hj).1) (fun j h1 h2 => by omega)
end luck
