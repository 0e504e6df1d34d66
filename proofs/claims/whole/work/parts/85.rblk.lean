/-! CONTRACTS: the reference's blocks -/
theorem lc_lt {x y : Int64} : lg_cmp x y < 0 ↔ x < y := by
  rw [← Int32.not_le, lc_ge, Int64.not_le]
theorem wo_sS (w g : Nat → Nat) (P : Nat → Bool) (a b : Int) : ∀ n, sZ n (fun c => if P c = true then (w c : Int) * ((g c : Int) * a - b) else 0) = ((sN n (fun c => if P c = true then w c * g c else 0) : Nat) : Int) * a - ((sN n (fun c => if P c = true then w c else 0) : Nat) : Int) * b
  | 0 => by show (0 : Int) = ((0 : Nat) : Int) * a - ((0 : Nat) : Int) * b; simp
  | n + 1 => by
    have ih := wo_sS w g P a b n
    show sZ n _ + (if P n = true then (w n : Int) * ((g n : Int) * a - b) else 0) = ((sN n _ + (if P n = true then w n * g n else 0) : Nat) : Int) * a - ((sN n _ + (if P n = true then w n else 0) : Nat) : Int) * b
    rw [ih]
    by_cases q : P n = true
    · rw [if_pos q, if_pos q, if_pos q, Int.natCast_add, Int.natCast_add, Int.natCast_mul]; grind
    · rw [if_neg q, if_neg q, if_neg q, Nat.add_zero, Nat.add_zero, Int.add_zero]
theorem wo_val (w g : Nat → Nat) (T P : Nat → Bool) : sS 16 P (wo w g T) = ((gT w g P : Nat) : Int) * ((wT w T : Nat) : Int) - ((wT w P : Nat) : Int) * ((gT w g T : Nat) : Int) :=
  wo_sS w g P _ _ 16
theorem tb_16 {x c : Nat} (hx : x < 65536) (h : x.testBit c = true) : c < 16 := by
  rcases Nat.lt_or_ge c 16 with e | e
  · exact e
  · rw [Nat.testBit_lt_two_pow (Nat.lt_of_lt_of_le hx (Nat.le_trans (by decide) (Nat.pow_le_pow_right (by decide) e)))] at h; cases h
/-- the best of the sets ahead of i -/
def Pst (D : Nat → Nat → Bool) (a : Nat → Int) (t i b : Nat) : Prop :=
  b < 65536 ∧ upO 16 D t.testBit b.testBit ∧ 0 ≤ sS 16 b.testBit a ∧ (b = 0 ∨ 0 < sS 16 b.testBit a) ∧ ∀ x, x < i → upO 16 D t.testBit x.testBit → sS 16 x.testBit a ≤ sS 16 b.testBit a ∧ (sS 16 x.testBit a = sS 16 b.testBit a → pc 16 b ≤ pc 16 x)
theorem sS_0 (a : Nat → Int) : sS 16 (0 : Nat).testBit a = 0 := by
  rw [sS, sZ_congr 16 (g := fun _ => 0) (fun c _ => by rw [tb0]; rfl), sZ_zero]
theorem pc_0 : pc 16 0 = 0 := cN_0 16 fun k _ => tb0 k
section rblk
variable {Θ : Th} {d : Nat} {σ : Mem} {Q : Po} {n : Nat} {D : Nat → Nat → Bool} {w g : Nat → Nat} {a : Nat → Int}
theorem pst_0 {t : Nat} : Pst D a t 1 0 := by
  refine ⟨by decide, ⟨fun c _ h => (by rw [tb0] at h; cases h), fun _ b _ _ _ h _ => (by rw [tb0] at h; cases h)⟩, by rw [sS_0]; exact Int.le_refl _, Or.inl rfl, fun x hx _ => ?_⟩
  have : x = 0 := by omega
  subst this
  exact ⟨Int.le_refl _, fun _ => Nat.le_refl _⟩
theorem pst_keep {t i b : Nat} (h : Pst D a t i b) (hx : upO 16 D t.testBit i.testBit → sS 16 i.testBit a ≤ sS 16 b.testBit a ∧ (sS 16 i.testBit a = sS 16 b.testBit a → pc 16 b ≤ pc 16 i)) : Pst D a t (i + 1) b :=
  ⟨h.1, h.2.1, h.2.2.1, h.2.2.2.1, fun x hl q => by
    rcases Nat.lt_or_ge x i with e | e
    · exact h.2.2.2.2 x e q
    · have : x = i := by omega
      subst this; exact hx q⟩
theorem pst_new {t i b : Nat} (h : Pst D a t i b) (hi : i < 65536) (hx : upO 16 D t.testBit i.testBit) (hlt : sS 16 b.testBit a < sS 16 i.testBit a ∨ (0 < sS 16 b.testBit a ∧ sS 16 i.testBit a = sS 16 b.testBit a ∧ pc 16 i < pc 16 b)) : Pst D a t (i + 1) i := by
  have h0 := h.2.2.1
  refine ⟨hi, hx, by omega, Or.inr (by omega), fun x hl q => ?_⟩
  rcases Nat.lt_or_ge x i with e | e
  · have := h.2.2.2.2 x e q
    refine ⟨by omega, fun e2 => ?_⟩
    have := this.2
    omega
  · have : x = i := by omega
    subst this; exact ⟨Int.le_refl _, fun _ => Nat.le_refl _⟩
theorem pst_end {t b : Nat} (h : Pst D a t (t + 1) b) (ht : t < 65536) : MX 16 D t.testBit a b.testBit := by
  obtain ⟨h1, h2, h3, h4, h5⟩ := h
  have key : ∀ V, upO 16 D t.testBit V → sS 16 V a ≤ sS 16 b.testBit a ∧ (sS 16 V a = sS 16 b.testBit a → pc 16 b ≤ cN 16 V) := fun V hV => by
    have e : ∀ c, c < 16 → V c = (nS 16 V).testBit c := fun c hc => by rw [nS_bit]; simp [hc]
    have eu : upO 16 D t.testBit (nS 16 V).testBit := upO_congr (fun _ _ => rfl) e hV
    have es : sS 16 V a = sS 16 (nS 16 V).testBit a := sS_congr fun c hc => ⟨e c hc, fun _ => rfl⟩
    have ec : cN 16 V = pc 16 (nS 16 V) := cN_congr 16 e
    rw [es, ec]
    refine h5 _ ?_ eu
    have := sub_le (x := nS 16 V) (t := t) fun k hk => by
      have hk16 : k < 16 := by
        rw [nS_bit] at hk
        simp only [Bool.and_eq_true, decide_eq_true_eq] at hk; exact hk.1
      exact eu.1 k hk16 hk
    omega
  refine ⟨h2, fun V hV => ⟨(key V hV).1, fun e c hc hb => ?_⟩⟩
  have m := sS_mod 16 b.testBit V a
  have k1 := (key _ (upO_u h2 hV)).1
  have k2 := key _ (upO_n h2 hV)
  have e2 : sS 16 (nB b.testBit V) a = sS 16 b.testBit a := by omega
  have k3 := k2.2 e2
  cases q : V c
  · exfalso
    have : cN 16 (nB b.testBit V) < cN 16 b.testBit := cN_lt 16 (fun k _ h => by simp only [nB, Bool.and_eq_true] at h; exact h.1) ⟨c, hc, by simp [nB, q], hb⟩
    have e3 : pc 16 b = cN 16 b.testBit := rfl
    omega
  · rfl
theorem lay_up {t i : Nat} {p : Nat → Bool} (hr : ∀ c, c < n → D c c = true) (hn : t < 2 ^ n) (h16 : n ≤ 16) (hp : ∀ k, k < 16 → (p k = true ↔ ∃ c, i.testBit c = true ∧ D k c = true)) (hs : ∀ c, c < 16 → i.testBit c = true → t.testBit c = true) (hi : i < 65536) : (sX p &&& nI t = nI i) ↔ upO 16 D t.testBit i.testBit := by
  have h65 := pw_le h16
  rw [sX_nS (show t < 65536 by omega), sX_and, sX_nS hi, sX_iff]
  constructor
  · intro h
    refine ⟨hs, fun a b ha hb hT hia ho => ?_⟩
    rw [← h a ha, Bool.and_eq_true]
    exact ⟨(hp a ha).mpr ⟨b, hia, ho⟩, hT⟩
  · intro h k hk
    apply bool_eq
    rw [Bool.and_eq_true, hp k hk]
    constructor
    · rintro ⟨⟨c, hc, ho⟩, hT⟩
      exact h.2 k c hk (tb_16 hi hc) hT hc ho
    · intro hik
      have := hs k hk hik
      exact ⟨⟨k, hik, hr k (pw_b hn this)⟩, this⟩
theorem c225 {t : Nat} (h16 : n ≤ 16) (hw : ∀ c, c < n → 1 ≤ w c ∧ w c ≤ 4) (hg : ∀ c, c < n → g c ≤ 240) (hO : DOk n D) (hlay : ∀ x, x < 2 ^ n → σ.1 152 x = nI (wT w x.testBit) ∧ σ.1 153 x = nI (gT w g x.testBit)) (hup : ∀ x, x < 2 ^ n → LayU D x σ) (ht : t < 2 ^ n)
    (k : ∀ b, b < 65536 → MX 16 D t.testBit (wo w g t.testBit) b.testBit → Q (some (.int (nI b))) σ) : Cm Θ (d + 1) 225 [.ref 124, .int (nI t)] σ Q := by
  have h65 := pw_le h16
  have hT : ∀ x, x < 2 ^ n → ∀ c, x.testBit c = true → c < n := fun x hx c => pw_b hx
  have wb : ∀ x, x < 2 ^ n → wT w x.testBit ≤ 64 := fun x hx => wT_b h16 (hT x hx) fun c h => (hw c h).2
  have gb : ∀ x, x < 2 ^ n → gT w g x.testBit ≤ 15360 := fun x hx => gT_b (hT x hx) (fun c h => (hw c h).2) hg
  refine K225 (B225_0 ?_)
  have z0 : (0 : Int64) = jJ (sS 16 (0 : Nat).testBit (wo w g t.testBit)) := by rw [sS_0]; rfl
  rw [z0]
  refine loopS (α := Nat) (I := fun j b => Pst D (wo w g t.testBit) t (j + 1) b) (P := fun j b => G Θ (d + 1) 225 7 [some (.ref 124), some (.int (nI t)), some (.int (nI b)), some (.long (jJ (sS 16 b.testBit (wo w g t.testBit)))), none, some (.int (nI (j + 1))), none, none] [] σ Q) t ?_ ?_ 0 pst_0
  · intro b hb
    exact B225_7 ⟨fun _ => k b hb.1 (pst_end hb (by omega)), fun h => absurd (nI_lt (Nat.lt_succ_self t) (by omega)) h⟩
  · intro j b hj hb ih
    have b65 := hb.1
    have i65 : j + 1 < 65536 := by omega
    have hbt : ∀ c, b.testBit c = true → t.testBit c = true := fun c h => hb.2.1.1 c (tb_16 b65 h) h
    have vi := vp_in_nI (show j + 1 < 65536 by omega) (by decide)
    have vt := vp_in_nI (show t < 65536 by omega) (by decide)
    refine B225_7 ⟨fun h => absurd h (nI_nlt (by omega) (by omega)), fun _ => ?_⟩
    have esub : (nI (j + 1) &&& (nI t ^^^ (-1))) = 0 ↔ ∀ c, c < 16 → (j + 1).testBit c = true → t.testBit c = true := by
      rw [sX_nS i65, sX_nS (show t < 65536 by omega), sX_dif, sX_eq0]
      exact ⟨fun h c hc q => by have := h c hc; cases z : t.testBit c <;> simp_all, fun h c hc => by have := h c hc; cases z : (j + 1).testBit c <;> simp_all⟩
    rw [nI_1]
    refine ⟨fun h => ih b (pst_keep hb fun q => absurd (esub.mpr q.1) h), fun h => ⟨vi, ?_⟩⟩
    have hs := esub.mp h
    obtain ⟨p, hp1, hp2⟩ := hup (j + 1) (by omega)
    have ecl := lay_up (i := j + 1) (p := p) hO.1 ht h16 hp2 hs i65
    rw [nI_clamp (show j + 1 < 2147483648 by omega), nI_clamp (show t < 2147483648 by omega), hp1]
    refine ⟨fun h2 => ⟨vi, vt, vi, vt, ?_⟩, fun h2 => ih b (pst_keep hb fun q => absurd (ecl.mpr q) h2)⟩
    have hu := ecl.mp h2
    have l1 := hlay (j + 1) (by omega)
    have l2 := hlay t ht
    have w1 := wb (j + 1) (by omega)
    have w2 := wb t ht
    have g1 := gb (j + 1) (by omega)
    have g2 := gb t ht
    rw [l1.1, l1.2, l2.1, l2.2, nI_j (show wT w (j + 1).testBit < 2 ^ 31 by omega), nI_j (show gT w g (j + 1).testBit < 2 ^ 31 by omega), nI_j (show wT w t.testBit < 2 ^ 31 by omega), nI_j (show gT w g t.testBit < 2 ^ 31 by omega), jJ_mul, jJ_mul, jJ_sub, ← wo_val]
    have bd : ∀ x, x < 2 ^ n → -983040 ≤ sS 16 x.testBit (wo w g t.testBit) ∧ sS 16 x.testBit (wo w g t.testBit) ≤ 983040 := fun x hx => by
      rw [wo_val, ← Int.natCast_mul, ← Int.natCast_mul]
      have m1 : gT w g x.testBit * wT w t.testBit ≤ 15360 * 64 := Nat.mul_le_mul (gb x hx) w2
      have m2 : wT w x.testBit * gT w g t.testBit ≤ 64 * 15360 := Nat.mul_le_mul (wb x hx) g2
      omega
    have d1 := bd (j + 1) (by omega)
    have d2 := bd b (by have := sub_le hbt; omega)
    rw [lc_lt, lc_eq, jJ_lt (by omega) (by omega) (by omega) (by omega), jJ_eq (by omega) (by omega) (by omega) (by omega)]
    refine ⟨fun h3 => ih b (pst_keep hb fun _ => ⟨by omega, fun e => by omega⟩), fun h3 => ⟨fun h4 => ih (j + 1) (pst_new hb i65 hu (Or.inl (by omega))), fun h4 => ⟨fun h5 => ?_, fun h5 => ?_⟩⟩⟩
    · have b0 : b = 0 := by
        rcases Nat.eq_zero_or_pos b with z | z
        · exact z
        · exact absurd h5 (nI_ne0 z (by omega))
      exact ih b (pst_keep hb fun _ => ⟨by omega, fun _ => by rw [b0, pc_0]; exact Nat.zero_le _⟩)
    · have b0 : ¬ b = 0 := fun z => by rw [z] at h5; exact h5 nI_0
      refine ci (fun _ => c230 i65) ?_
      refine ci (fun _ => c230 b65) ?_
      have p1 : pc 16 (j + 1) ≤ 16 := cN_max _ 16
      have p2 : pc 16 b ≤ 16 := cN_max _ 16
      refine ⟨fun h6 => ?_, fun h6 => ?_⟩
      · rw [nI_ltI (by omega) (by omega)] at h6
        exact ih (j + 1) (pst_new hb i65 hu (Or.inr ⟨hb.2.2.2.1.resolve_left b0, h4, h6⟩))
      · rw [nI_ltI (by omega) (by omega)] at h6
        exact ih b (pst_keep hb fun _ => ⟨by omega, fun _ => by omega⟩)
theorem c226_33 {aa t b : Nat} {T : Nat → Bool} (haa : aa < 16) (h16 : n ≤ 16) (hw : ∀ c, c < n → 1 ≤ w c ∧ w c ≤ 4) (hg : ∀ c, c < n → g c ≤ 240) (hO : DOk n D) (hlay : ∀ x, x < 2 ^ n → σ.1 152 x = nI (wT w x.testBit) ∧ σ.1 153 x = nI (gT w g x.testBit)) (hup : ∀ x, x < 2 ^ n → LayU D x σ)
    (ht : t < 2 ^ n) (hb : b < 65536) (ha : t.testBit aa = true) (hM : MX 16 D t.testBit (wo w g t.testBit) b.testBit) (hC : ∀ kk R, Chn w g D aa kk t.testBit R → ∃ k', Chn w g D aa k' T R) (hS : ∀ c, t.testBit c = true → T c = true)
    (k : ∀ R kk, Chn w g D aa kk T R → (∀ c, R c = true → T c = true) → Q (some (.int (sX R))) σ) : G Θ (d + 2) 226 33 [some (.ref 124), some (.int (nI aa)), some (.int (nI t)), some (.int (nI b))] [] σ Q := by
  have h65 := pw_le h16
  have main : ∀ m t b, cN 16 t.testBit ≤ m → t < 2 ^ n → b < 65536 → t.testBit aa = true → MX 16 D t.testBit (wo w g t.testBit) b.testBit → (∀ kk R, Chn w g D aa kk t.testBit R → ∃ k', Chn w g D aa k' T R) → (∀ c, t.testBit c = true → T c = true) → G Θ (d + 2) 226 33 [some (.ref 124), some (.int (nI aa)), some (.int (nI t)), some (.int (nI b))] [] σ Q := by
    intro m
    induction m with
    | zero =>
      intro t b hm _ _ ha
      have := cN_eq0 16 (by omega : cN 16 t.testBit = 0) aa haa
      rw [ha] at this; cases this
    | succ m ih =>
      intro t b hm ht hb ha hM hC hS
      have t65 : t < 65536 := by omega
      have hbt : ∀ c, b.testBit c = true → t.testBit c = true := fun c h => hM.1.1 c (tb_16 hb h) h
      refine B226_33 ⟨fun h => ?_, fun h => ?_⟩
      · have b0 : b = 0 := by
          rcases Nat.eq_zero_or_pos b with z | z
          · exact z
          · exact absurd h (nI_ne0 z (by omega))
        subst b0
        have hM0 : MX 16 D t.testBit (wo w g t.testBit) (fun _ => false) := MX_congr (fun _ _ => rfl) (fun c _ => tb0 c) (fun _ _ _ => rfl) hM
        obtain ⟨k', hk'⟩ := hC 0 t.testBit ⟨fun _ _ => rfl, hM0⟩
        rw [sX_nS t65]
        exact k _ k' hk' hS
      · have b0 : 0 < b := by
          rcases Nat.eq_zero_or_pos b with z | z
          · subst z; exact absurd nI_0 h
          · exact z
        have hUne := tb_pos b0 hb
        have hpS : 0 < wT w t.testBit := wT_pos (fun c _ h => (hw c (pw_b ht h)).1) haa ha
        have hLne : ∃ c, c < 16 ∧ dB t.testBit b.testBit c = true := by
          refine Classical.byContradiction fun hx => ?_
          have eU : ∀ c, c < 16 → b.testBit c = t.testBit c := fun c hc' => bool_eq ⟨hbt c, fun h => by
            cases q : b.testBit c
            · exact absurd ⟨c, hc', by simp [dB, h, q]⟩ hx
            · rfl⟩
          have e0 : sS 16 (fun _ => false) (wo w g t.testBit) = 0 := by rw [sS, sZ_congr 16 (g := fun _ => 0) (fun _ _ => by simp), sZ_zero]
          have e1 : sS 16 b.testBit (wo w g t.testBit) = 0 := by
            rw [← wo_0 (g := g) hpS]; exact sS_congr fun c hc' => ⟨eU c hc', fun _ => rfl⟩
          obtain ⟨c, hc', hUc⟩ := hUne
          have := (hM.2 (fun _ => false) ⟨fun _ _ h => (by cases h), fun _ _ _ _ _ h _ => (by cases h)⟩).2 (by rw [e0, e1]) c hc' hUc
          cases this
        have ecn : cN 16 t.testBit = cN 16 (dB t.testBit b.testBit) + cN 16 b.testBit := cN_two 16 fun c hc' => by
          have := hbt c
          cases q1 : t.testBit c <;> cases q2 : b.testBit c <;> simp_all [dB]
        have cpos : ∀ S : Nat → Bool, (∃ c, c < 16 ∧ S c = true) → 1 ≤ cN 16 S := fun S ⟨c, hc', h⟩ => by
          rcases Nat.eq_zero_or_pos (cN 16 S) with q | q
          · have := cN_eq0 16 q c hc'; rw [h] at this; cases this
          · exact q
        have c1 := cpos _ hUne
        have c2 := cpos _ hLne
        have etd : (nS 16 (dB t.testBit b.testBit)).testBit = dB t.testBit b.testBit := nS_tb fun c h => by
          simp only [dB, Bool.and_eq_true] at h; exact tb_16 t65 h.1
        have esx : nI t &&& (nI b ^^^ (-1)) = nI (nS 16 (dB t.testBit b.testBit)) := by
          rw [sX_nS t65, sX_nS hb, sX_dif]; rfl
        have htd : nS 16 (dB t.testBit b.testBit) ≤ t := sub_le fun c h => by
          rw [etd] at h; simp only [dB, Bool.and_eq_true] at h; exact h.1
        have hbl : b ≤ t := sub_le hbt
        rw [bt_shr _ (by omega), bt_nI _ (by omega), esx]
        refine ⟨fun h2 => ?_, fun h2 => ?_⟩
        · have hab : b.testBit aa = false := by
            cases q : b.testBit aa
            · rfl
            · exact absurd (bt_eq1.mpr q) h2
          refine c225 h16 hw hg hO hlay hup (by omega) fun b' hb' hM' => ⟨_, rfl, ?_⟩
          refine ih _ _ (by rw [etd]; omega) (by omega) hb' (by rw [etd]; simp [dB, ha, hab]) hM' (fun kk R hR => hC (kk + 1) R ⟨b.testBit, hM, hUne, Or.inr ⟨hab, by rw [← etd]; exact hR⟩⟩) (fun c h => hS c ?_)
          rw [etd] at h; simp only [dB, Bool.and_eq_true] at h; exact h.1
        · have hab := bt_eq1.mp h2
          refine c225 h16 hw hg hO hlay hup (by omega) fun b' hb' hM' => ⟨_, rfl, ?_⟩
          exact ih _ _ (by omega) (by omega) hb' hab hM' (fun kk R hR => hC (kk + 1) R ⟨b.testBit, hM, hUne, Or.inl ⟨hab, hR⟩⟩) (fun c h => hS c (hbt c h))
  exact main _ t b (Nat.le_refl _) ht hb ha hM hC hS
end rblk
