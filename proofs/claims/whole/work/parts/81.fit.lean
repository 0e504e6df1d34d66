/-! CONTRACTS: the fit by squares, whole. Chn: how a case comes to its block -/
def Chn (w g : Nat → Nat) (ov : Nat → Nat → Bool) (a : Nat) : Nat → (Nat → Bool) → (Nat → Bool) → Prop
  | 0, T, R => (∀ c, c < 16 → T c = R c) ∧ MX 16 ov T (wo w g T) (fun _ => false)
  | k + 1, T, R => ∃ U, MX 16 ov T (wo w g T) U ∧ (∃ c, c < 16 ∧ U c = true) ∧ ((U a = true ∧ Chn w g ov a k U R) ∨ (U a = false ∧ Chn w g ov a k (dB T U) R))
theorem wo_congr {w g : Nat → Nat} {T T' : Nat → Bool} (h : ∀ c, c < 16 → T c = T' c) : wo w g T = wo w g T' := by
  have e1 : wT w T = wT w T' := sN_congr 16 fun c hc => by rw [h c hc]
  have e2 : gT w g T = gT w g T' := sN_congr 16 fun c hc => by rw [h c hc]
  funext c
  unfold wo; rw [e1, e2]
theorem chn_one {w g : Nat → Nat} {ov : Nat → Nat → Bool} {a : Nat} (ha : a < 16) : ∀ k T R k' T' R', (∀ c, c < 16 → T c = T' c) → Chn w g ov a k T R → Chn w g ov a k' T' R' → ∀ c, c < 16 → R c = R' c := by
  intro k
  induction k with
  | zero =>
    intro T R k' T' R' hT h h'
    cases k' with
    | zero => exact fun c hc => by rw [← h.1 c hc, hT c hc, h'.1 c hc]
    | succ k' =>
      obtain ⟨U, hU, ⟨c, hc, hUc⟩, -⟩ := h'
      have := MX_one (MX_congr hT (fun _ _ => rfl) (fun c _ _ => by rw [wo_congr hT]) h.2) hU c hc
      rw [hUc] at this; cases this
  | succ k ih =>
    intro T R k' T' R' hT h h'
    obtain ⟨U, hU, ⟨c0, hc0, hUc⟩, hh⟩ := h
    have hU' := MX_congr hT (fun _ _ => rfl) (fun c _ _ => by rw [wo_congr hT]) hU
    cases k' with
    | zero =>
      have := MX_one hU' h'.2 c0 hc0
      rw [hUc] at this; cases this
    | succ k' =>
      obtain ⟨U', hV, -, hh'⟩ := h'
      have e := MX_one hU' hV
      rcases hh with ⟨h1, h2⟩ | ⟨h1, h2⟩ <;> rcases hh' with ⟨h1', h2'⟩ | ⟨h1', h2'⟩
      · exact ih U R k' U' R' e h2 h2'
      · rw [e a ha, h1'] at h1; cases h1
      · rw [e a ha, h1'] at h1; cases h1
      · exact ih (dB T U) R k' (dB T' U') R' (fun c hc => by rw [dB, dB, hT c hc, e c hc]) h2 h2'
theorem VI_none {ov : Nat → Nat → Bool} {T : Nat → Bool} {w g f : Nat → Rat} (h : ∀ c, c < 16 → T c = false) : VI 16 ov T w g f := by
  refine ⟨fun a b ha _ hT => (by rw [h a ha] at hT; cases hT), fun k _ => ?_⟩
  rw [sT, sQ_congr 16 (g := fun _ => 0) (fun c hc => by rw [h c hc]; simp), sQ_zero]; exact Rat.le_refl
/-- what the fit by squares leaves in the cells of the object o, for the cases T -/
def SqC (o : Nat) (w g : Nat → Nat) (ov : Nat → Nat → Bool) (T : Nat → Bool) (σ : Mem) : Prop :=
  ∃ (f : Nat → Rat) (r : Rat), VI 16 ov T (qF w) (qF g) f ∧ r = sT 16 T (fun c => qF w c * ((qF g c - f c) * (qF g c - f c))) ∧ r.den ≤ 2300000 ∧ (σ.2.1 (o + 4) 0 = jJ r.num ∧ σ.2.1 (o + 4) 1 = jJ (r.den : Nat)) ∧
    ∀ c, c < 16 → T c = true → (σ.2.1 (o + 2) c = jJ (f c).num ∧ σ.2.1 (o + 3) c = jJ ((f c).den : Nat) ∧ (f c).den ≤ 64 ∧ 0 ≤ f c ∧ f c ≤ ((240 : Nat) : Rat)) ∧ ∃ R k, Chn w g ov c k T R ∧ (∀ x, R x = true → T x = true) ∧ σ.1 (o + 1) c = sX R
theorem mT_den {w g : Nat → Nat} {T : Nat → Bool} (hp : 0 < wT w T) (h : wT w T ≤ 64) : (mT w g T).den ≤ 64 := by
  rw [mT, (mk_num (u := ((gT w g T : Nat) : Int)) hp rfl).2]
  exact Nat.le_trans (Nat.div_le_self _ _) h
theorem mT_in {w g : Nat → Nat} {T : Nat → Bool} (hp : 0 < wT w T) (hg : ∀ c, T c = true → g c ≤ 240) : 0 ≤ mT w g T ∧ mT w g T ≤ ((240 : Nat) : Rat) := by
  have hm := mT_eq (w := w) (g := g) hp
  have hW : 0 < ((wT w T : Nat) : Rat) := Rat.natCast_pos.mpr hp
  have h1 : gT w g T ≤ 240 * wT w T := by
    have : gT w g T ≤ sN 16 (fun c => 240 * (if T c = true then w c else 0)) := sN_le 16 fun c _ => by
      by_cases q : T c = true
      · rw [if_pos q, if_pos q, Nat.mul_comm]; exact Nat.mul_le_mul_right _ (hg c q)
      · rw [if_neg q, if_neg q]; exact Nat.zero_le _
    have e : ∀ n (f : Nat → Nat), sN n (fun c => 240 * f c) = 240 * sN n f := by
      intro n f
      induction n with
      | zero => rfl
      | succ n ih => show sN n _ + 240 * f n = 240 * (sN n f + f n); rw [ih, Nat.mul_add]
    rw [e] at this; exact this
  constructor
  · refine Rat.le_of_mul_le_mul_right (c := ((wT w T : Nat) : Rat)) ?_ hW
    rw [hm, Rat.zero_mul]; exact Rat.natCast_nonneg
  · refine Rat.le_of_mul_le_mul_right (c := ((wT w T : Nat) : Rat)) ?_ hW
    rw [hm, ← Rat.natCast_mul]; exact Rat.natCast_le_natCast.mpr h1
theorem sN_upd (f : Nat → Nat) (x : Nat) : ∀ n k, k < n → sN n (fun j => if j = k then x else f j) + f k = sN n f + x
  | 0, k, hk => absurd hk (Nat.not_lt_zero _)
  | n + 1, k, hk => by
    show sN n (fun j => if j = k then x else f j) + (if n = k then x else f n) + f k = sN n f + f n + x
    rcases Nat.lt_or_ge k n with q | q
    · have := sN_upd f x n k q
      rw [if_neg (by omega)]; omega
    · have hkn : k = n := by omega
      subst hkn
      rw [if_pos rfl, sN_congr k (f := fun j => if j = k then x else f j) (g := f) (fun j hj => if_neg (by omega))]; omega
theorem cN_two {s p q : Nat → Bool} : ∀ n, (∀ k, k < n → s k = (p k || q k) ∧ ¬ (p k = true ∧ q k = true)) → cN n s = cN n p + cN n q
  | 0, _ => rfl
  | n + 1, h => by
    have h1 := cN_two n (fun k hk => h k (by omega))
    have h2 := h n (by omega)
    rw [cN_s, cN_s, cN_s, h1]
    cases hp : p n <;> cases hq : q n <;> simp_all <;> omega
theorem sq_le {x a : Rat} (h : -a ≤ x) (h' : x ≤ a) : x * x ≤ a * a := by
  have := Rat.mul_nonneg (a := a - x) (b := a + x) (by grind) (by grind)
  grind
theorem wo_0 {w g : Nat → Nat} {T : Nat → Bool} (hp : 0 < wT w T) : sS 16 T (wo w g T) = 0 := by
  have h := wo_sum (w := w) (g := g) (V := T) hp
  rw [sT_0 hp, Rat.mul_zero] at h
  have h2 : ((sS 16 T (wo w g T) : Int) : Rat) ≤ ((0 : Int) : Rat) := by rw [h]; exact Rat.le_refl
  have h3 : ((0 : Int) : Rat) ≤ ((sS 16 T (wo w g T) : Int) : Rat) := by rw [h]; exact Rat.le_refl
  have := Rat.intCast_le_intCast.mp h2
  have := Rat.intCast_le_intCast.mp h3
  omega
section fit
variable {Θ : Th} {d : Nat} {σ : Mem} {Q : Po} {o r l : Nat} {B : Bk} {D : Nat → Nat → Bool} {T : Nat → Bool}
theorem c68 (ho : o = 92 ∨ o = 101) (hF : Fit r l B D σ) (hD : DOk (bN B) D) (hT : ∀ c, T c = true → c < bN B)
    (k : ∀ σ', Fr [86, 87, 88, 89, 90, 91, o + 1, o + 2, o + 3, o + 4, o + 7, o + 8] σ σ' → SqC o (bW B) (bG B) D T σ' → Q none σ') : Cm Θ (d + 5) 68 [.ref o, .ref r, .ref l, .int (sX T)] σ Q := by
  obtain ⟨⟨hr, hl⟩, ⟨hn, h16⟩, hc, hrow⟩ := id hF
  have hls := l_shq hl
  obtain ⟨hs7, hs4, hs8⟩ := near_s ho
  have hw4 : ∀ c, c < bN B → bW B c ≤ 4 := fun c h => (hc c h).2.2.2
  have hw1 : ∀ c, c < bN B → 0 < bW B c := fun c h => (hc c h).2.2.1
  have hg2 : ∀ c, c < bN B → bG B c ≤ 240 := fun c h => (hc c h).1.2
  let LS : List Nat := [86, 87, 88, 89, 90, 91, o + 1, o + 2, o + 3, o + 4, o + 7, o + 8]
  have hLS : LS = [86, 87, 88, 89, 90, 91, o + 1, o + 2, o + 3, o + 4, o + 7, o + 8] := rfl
  have hFs : ∀ s, Fr LS σ s → Fit r l B D s := fun s hs => Fit_fr hF hs (by rw [hLS]; rcases ho with rfl | rfl <;> decide)
  refine K68 (n2 := 16) (B68_0 hs7 (bk_s hr) hls.2 ?_)
  have z0 : (0 : Int64) = jJ 0 := rfl
  have z1 : (1 : Int64) = jJ ((1 : Nat) : Int) := rfl
  rw [z0, z1]
  refine c47 hs4 (by decide) (by decide) (by decide) (by decide) ⟨rfl, ?_⟩
  -- all that stands between two rounds: the sets still open, those sealed, what they got
  let INV : Nat → Mem → Nat → (Nat → Nat → Bool) → (Nat → Bool) → (Nat → Rat) → List Nat → Rat → Prop := fun i s kk st Z f L rr =>
    Fr LS σ s ∧ (∀ j, j < kk → s.1 (o + 7) j = sX (st j) ∧ (∀ c, st j c = true → T c = true) ∧ ∃ c, c < 16 ∧ st j c = true) ∧
    ((∀ i j c, i < j → j < kk → st i c = true → st j c = false) ∧ (∀ j c, j < kk → st j c = true → Z c = false) ∧ (∀ c, Z c = true → T c = true) ∧ ∀ c, c < 16 → T c = true → Z c = true ∨ ∃ j, j < kk ∧ st j c = true) ∧
    i + sN kk (fun j => 2 * cN 16 (st j) - 1) ≤ 31 ∧
    (∀ f', (∀ c, c < 16 → Z c = true → f' c = f c) → (∀ j, j < kk → VI 16 D (st j) (qF (bW B)) (qF (bG B)) f') → VI 16 D T (qF (bW B)) (qF (bG B)) f') ∧
    ((∀ c, c < 16 → Z c = true → (s.2.1 (o + 2) c = jJ (f c).num ∧ s.2.1 (o + 3) c = jJ ((f c).den : Nat) ∧ (f c).den ≤ 64 ∧ 0 ≤ f c ∧ f c ≤ ((240 : Nat) : Rat)) ∧ ∃ R k, Chn (bW B) (bG B) D c k T R ∧ (∀ x, R x = true → T x = true) ∧ s.1 (o + 1) c = sX R) ∧
      ∀ j c, j < kk → st j c = true → ∀ k R, Chn (bW B) (bG B) D c k (st j) R → ∃ k', Chn (bW B) (bG B) D c k' T R) ∧
    (rr = sT 16 Z (fun c => qF (bW B) c * ((qF (bG B) c - f c) * (qF (bG B) c - f c))) ∧ s.2.1 (o + 4) 0 = jJ rr.num ∧ s.2.1 (o + 4) 1 = jJ (rr.den : Nat)) ∧
    (∀ a, a ∈ L → 1 ≤ a ∧ a ≤ 64) ∧ sumL L = wT (bW B) Z ∧ rr.den ∣ lcmL L
  have pos : ∀ S : Nat → Bool, (∀ c, S c = true → T c = true) → (∃ c, c < 16 ∧ S c = true) → 0 < wT (bW B) S := fun S h ⟨c, hc, hs⟩ => wT_pos (fun c _ hS => hw1 c (hT c (h c hS))) hc hs
  have main : ∀ n i s kk st Z f L rr, i + n = 32 → INV i s kk st Z f L rr → G Θ (d + 5) 68 30 [some (.ref o), some (.ref r), some (.ref l), none, some (.int (nI kk)), some (.int (nI i)), none, none] [] s Q := by
    intro n
    induction n with
    | zero =>
      intro i s kk st Z f L rr hi ⟨_, _, _, h4, _⟩
      omega
    | succ n ih =>
      intro i s kk st Z f L rr hi ⟨h1, h2, ⟨h3a, h3b, h3c, h3d⟩, h4, h5, ⟨h6a, h6b⟩, ⟨h7, h7a, h7b⟩, h8, h9, h10⟩
      have hi32 : i < 32 := by omega
      have wZ : wT (bW B) Z ≤ 64 := wT_b h16 (fun c h => hT c (h3c c h)) hw4
      have rr0 : 0 ≤ rr := by
        rw [h7]
        refine sT_nonneg fun c _ _ => Rat.mul_nonneg Rat.natCast_nonneg ?_
        rcases Rat.le_total (a := 0) (b := qF (bG B) c - f c) with q | q
        · exact Rat.mul_nonneg q q
        · have := Rat.mul_nonneg (a := -(qF (bG B) c - f c)) (b := -(qF (bG B) c - f c)) (by grind) (by grind)
          grind
      have rr1 : rr ≤ ((3686400 : Nat) : Rat) := by
        rw [h7]
        have e1 : sT 16 Z (fun c => qF (bW B) c * ((qF (bG B) c - f c) * (qF (bG B) c - f c))) ≤ sT 16 Z (fun c => ((bW B c * 57600 : Nat) : Rat)) := sT_le fun c hc hZ => by
          have b1 := (h6a c hc hZ).1.2.2.2
          have b2 : qF (bG B) c ≤ ((240 : Nat) : Rat) := Rat.natCast_le_natCast.mpr (hg2 c (hT c (h3c c hZ)))
          have b3 : 0 ≤ qF (bG B) c := Rat.natCast_nonneg
          have b4 := sq_le (x := qF (bG B) c - f c) (a := ((240 : Nat) : Rat)) (by grind) (by grind)
          have b5 := Rat.mul_le_mul_of_nonneg_left b4 (show 0 ≤ qF (bW B) c from Rat.natCast_nonneg)
          have e : ((bW B c * 57600 : Nat) : Rat) = qF (bW B) c * (((240 : Nat) : Rat) * ((240 : Nat) : Rat)) := by
            show ((bW B c * 57600 : Nat) : Rat) = ((bW B c : Nat) : Rat) * (((240 : Nat) : Rat) * ((240 : Nat) : Rat))
            rw [← Rat.natCast_mul, ← Rat.natCast_mul]
          rw [e]; exact b5
        rw [sT_castN] at e1
        refine Rat.le_trans e1 (Rat.natCast_le_natCast.mpr ?_)
        have e2 : sN 16 (fun c => if Z c = true then bW B c * 57600 else 0) = wT (bW B) Z * 57600 := by
          have : ∀ n, sN n (fun c => if Z c = true then bW B c * 57600 else 0) = sN n (fun c => if Z c = true then bW B c else 0) * 57600 := by
            intro n
            induction n with
            | zero => show 0 = 0 * 57600; rw [Nat.zero_mul]
            | succ n ih2 =>
              show sN n _ + (if Z n = true then bW B n * 57600 else 0) = (sN n _ + (if Z n = true then bW B n else 0)) * 57600
              rw [ih2, Nat.add_mul]
              by_cases q : Z n = true
              · rw [if_pos q, if_pos q]
              · rw [if_neg q, if_neg q, Nat.zero_mul]
          exact this 16
        rw [e2]; omega
      cases kk with
      | zero =>
        refine B68_30 hs7 (bk_s hr) hls.2 ⟨fun h => absurd h (nI_ge hi32 (by decide)), fun _ => ⟨fun _ => ?_, fun h => absurd (by decide) h⟩⟩
        have eZ : ∀ c, c < 16 → Z c = T c := fun c hc' => bool_eq ⟨h3c c, fun h => by
          rcases h3d c hc' h with h | ⟨j, hj, _⟩
          · exact h
          · exact absurd hj (Nat.not_lt_zero _)⟩
        refine k s h1 ⟨f, rr, h5 f (fun _ _ _ => rfl) (fun j hj => absurd hj (Nat.not_lt_zero _)), ?_, ?_, ⟨h7a, h7b⟩, fun c hc' hTc => h6a c hc' (by rw [eZ c hc']; exact hTc)⟩
        · rw [h7]; exact sQ_congr 16 fun c hc' => by rw [eZ c hc']
        · exact Nat.le_trans (Nat.le_of_dvd (lcm_pos _ fun a ha => (h8 a ha).1) h10) (lcm_64 h8 (by omega))
      | succ m =>
        obtain ⟨hs, hsT, hsne⟩ := h2 m (Nat.lt_succ_self m)
        have hm16 : m + 1 ≤ 16 := by
          have hch : ∀ j, ∃ c, j < m + 1 → c < 16 ∧ st j c = true := fun j => by
            by_cases q : j < m + 1
            · obtain ⟨c, hc', hcc⟩ := (h2 j q).2.2
              exact ⟨c, fun _ => ⟨hc', hcc⟩⟩
            · exact ⟨0, fun h => absurd h q⟩
          exact holes (f := fun j => Classical.choose (hch j)) (fun j hj => (Classical.choose_spec (hch j) hj).1) (fun a b hab hb e => by
            have x1 := (Classical.choose_spec (hch a) (by omega)).2
            have x2 := (Classical.choose_spec (hch b) hb).2
            have := h3a a b _ hab hb x1
            rw [show Classical.choose (hch a) = Classical.choose (hch b) from e, x2] at this; cases this)
        have hSn : ∀ c, st m c = true → c < bN B := fun c h => hT c (hsT c h)
        have hpS := pos (st m) hsT hsne
        have hs4 : i + (sN m (fun j => 2 * cN 16 (st j) - 1) + (2 * cN 16 (st m) - 1)) ≤ 31 := h4
        refine B68_30 hs7 (bk_s hr) hls.2 ⟨fun h => absurd h (nI_ge hi32 (by decide)), fun _ => ⟨fun h => absurd h (nI_nle (Nat.succ_pos m) (by omega)), fun _ => ⟨by rw [nI_pred]; exact vp_in_nI (by omega) (by decide), ?_⟩⟩⟩
        rw [nI_pred, nI_clamp (by omega), hs]
        refine c69 ho (hFs s h1) hD hSn fun σ4 U f4 hMX hUS => ⟨_, rfl, ?_⟩
        have f4' : Fr LS σ σ4 := h1.tr (f4.mono (by rw [hLS]; intro j hj; simp at hj ⊢; omega))
        have k7 : σ4.1 (o + 7) = s.1 (o + 7) := (f4 (o + 7) (by simp; omega)).1
        have k1 : σ4.1 (o + 1) = s.1 (o + 1) := (f4 (o + 1) (by simp; omega)).1
        have k2 : σ4.2.1 (o + 2) = s.2.1 (o + 2) := (f4 (o + 2) (by simp; omega)).2.1
        have k3 : σ4.2.1 (o + 3) = s.2.1 (o + 3) := (f4 (o + 3) (by simp; omega)).2.1
        have k4 : σ4.2.1 (o + 4) = s.2.1 (o + 4) := (f4 (o + 4) (by simp; omega)).2.1
        refine ⟨fun hU => ?_, fun hU => ?_⟩
        · -- parted
          have hUne : ∃ c, c < 16 ∧ U c = true := by
            refine Classical.byContradiction fun hx => hU (sX_eq0.mpr fun c hc' => ?_)
            cases q : U c
            · rfl
            · exact absurd ⟨c, hc', q⟩ hx
          have hLne : ∃ c, c < 16 ∧ dB (st m) U c = true := by
            refine Classical.byContradiction fun hx => ?_
            have eU : ∀ c, c < 16 → U c = st m c := fun c hc' => bool_eq ⟨hUS c, fun h => by
              cases q : U c
              · exact absurd ⟨c, hc', by simp [dB, h, q]⟩ hx
              · rfl⟩
            have e0 : sS 16 (fun _ => false) (wo (bW B) (bG B) (st m)) = 0 := by rw [sS, sZ_congr 16 (g := fun _ => 0) (fun _ _ => by simp), sZ_zero]
            have e1 : sS 16 U (wo (bW B) (bG B) (st m)) = 0 := by
              rw [← wo_0 (g := bG B) hpS]; exact sS_congr fun c hc' => ⟨eU c hc', fun _ => rfl⟩
            obtain ⟨c, hc', hUc⟩ := hUne
            have := (hMX.2 (fun _ => false) ⟨fun _ _ h => (by cases h), fun _ _ _ _ _ h _ => (by cases h)⟩).2 (by rw [e0, e1]) c hc' hUc
            cases this
          have ecn : cN 16 (st m) = cN 16 (dB (st m) U) + cN 16 U := cN_two 16 fun c hc' => by
            have := hUS c
            cases q1 : st m c <;> cases q2 : U c <;> simp_all [dB]
          have cpos : ∀ S : Nat → Bool, (∃ c, c < 16 ∧ S c = true) → 1 ≤ cN 16 S := fun S ⟨c, hc', h⟩ => by
            rcases Nat.eq_zero_or_pos (cN 16 S) with q | q
            · have := cN_eq0 16 q c hc'; rw [h] at this; cases this
            · exact q
          have c1 := cpos _ hUne
          have c2 := cpos _ hLne
          have hLS' : ∀ c, dB (st m) U c = true → st m c = true ∧ U c = false := fun c h => by simp only [dB, Bool.and_eq_true, Bool.not_eq_true'] at h; exact h
          refine ⟨vp_in_nI (by omega) (by decide), vp_in_nI (by omega) (by decide), ?_⟩
          rw [nI_clamp (by omega), nI_1, nI_1, sX_dif]
          have e2 : nI (m + 1 + 1) = nI (m + 2) := rfl
          rw [e2]
          refine ih (i + 1) _ (m + 2) (fun j => if j = m then dB (st m) U else if j = m + 1 then U else st j) Z f L rr (by omega) ⟨(f4'.I (by rw [hLS]; simp)).I (by rw [hLS]; simp), fun j hj => ?_, ⟨fun a b c hab hb h => ?_, fun j c hj h => ?_, h3c, fun c hc' hTc => ?_⟩, ?_, fun f' hz hv => ?_, ⟨fun c hc' hZ => ?_, fun j c hj h => ?_⟩, ⟨h7, ?_, ?_⟩, h8, h9, h10⟩
          · show (sI (sI σ4 (o + 7) m (sX (fun k => st m k && !U k))) (o + 7) (m + 1) (sX U)).1 (o + 7) j = sX (if j = m then dB (st m) U else if j = m + 1 then U else st j) ∧ (∀ c, (if j = m then dB (st m) U else if j = m + 1 then U else st j) c = true → T c = true) ∧ ∃ c, c < 16 ∧ (if j = m then dB (st m) U else if j = m + 1 then U else st j) c = true
            by_cases q1 : j = m
            · rw [if_pos q1, q1, sI_of _ _ (by omega), sI_at]
              exact ⟨rfl, fun c h => hsT c (hLS' c h).1, hLne⟩
            · by_cases q2 : j = m + 1
              · rw [if_neg q1, if_pos q2, q2, sI_at]
                exact ⟨rfl, fun c h => hsT c (hUS c h), hUne⟩
              · rw [if_neg q1, if_neg q2, sI_of _ _ (by omega), sI_of _ _ (by omega), k7]
                exact h2 j (by omega)
          · have h : (if a = m then dB (st m) U else if a = m + 1 then U else st a) c = true := h
            show (if b = m then dB (st m) U else if b = m + 1 then U else st b) c = false
            by_cases qa : a = m
            · rw [if_pos qa] at h
              rw [if_neg (by omega), if_pos (by omega)]
              exact (hLS' c h).2
            · rw [if_neg qa, if_neg (by omega)] at h
              by_cases qb : b = m
              · rw [if_pos qb]
                have := h3a a m c (by omega) (by omega) h
                simp [dB, this]
              · rw [if_neg qb]
                by_cases qb2 : b = m + 1
                · rw [if_pos qb2]
                  have := h3a a m c (by omega) (by omega) h
                  cases q : U c
                  · rfl
                  · rw [hUS c q] at this; cases this
                · rw [if_neg qb2]; exact h3a a b c hab (by omega) h
          · have h : (if j = m then dB (st m) U else if j = m + 1 then U else st j) c = true := h
            by_cases q1 : j = m
            · rw [if_pos q1] at h; exact h3b m c (by omega) (hLS' c h).1
            · rw [if_neg q1] at h
              by_cases q2 : j = m + 1
              · rw [if_pos q2] at h; exact h3b m c (by omega) (hUS c h)
              · rw [if_neg q2] at h; exact h3b j c (by omega) h
          · rcases h3d c hc' hTc with h | ⟨j, hj, h⟩
            · exact Or.inl h
            · right
              by_cases q1 : j = m
              · rw [q1] at h
                cases q : U c
                · exact ⟨m, by omega, by show (if m = m then dB (st m) U else _) c = true; rw [if_pos rfl]; simp [dB, h, q]⟩
                · exact ⟨m + 1, by omega, by show (if m + 1 = m then _ else if m + 1 = m + 1 then U else _) c = true; rw [if_neg (by omega), if_pos rfl]; exact q⟩
              · exact ⟨j, by omega, by show (if j = m then _ else if j = m + 1 then U else st j) c = true; rw [if_neg q1, if_neg (by omega)]; exact h⟩
          · show i + 1 + (sN m (fun j => 2 * cN 16 (if j = m then dB (st m) U else if j = m + 1 then U else st j) - 1) + (2 * cN 16 (if m = m then dB (st m) U else if m = m + 1 then U else st m) - 1) + (2 * cN 16 (if m + 1 = m then dB (st m) U else if m + 1 = m + 1 then U else st (m + 1)) - 1)) ≤ 31
            rw [if_pos rfl, if_neg (show ¬ m + 1 = m by omega), if_pos rfl, sN_congr m (g := fun j => 2 * cN 16 (st j) - 1) (fun j hj => by rw [if_neg (show ¬ j = m by omega), if_neg (show ¬ j = m + 1 by omega)])]
            omega
          · refine h5 f' hz fun j hj => ?_
            by_cases q1 : j = m
            · rw [q1]
              have v1 := hv m (by omega)
              have v2 := hv (m + 1) (by omega)
              have v1 : VI 16 D (if m = m then dB (st m) U else if m = m + 1 then U else st m) (qF (bW B)) (qF (bG B)) f' := v1
              have v2 : VI 16 D (if m + 1 = m then dB (st m) U else if m + 1 = m + 1 then U else st (m + 1)) (qF (bW B)) (qF (bG B)) f' := v2
              rw [if_pos rfl] at v1
              rw [if_neg (show ¬ m + 1 = m by omega), if_pos rfl] at v2
              exact sq_glue (fun c _ h => hw1 c (hSn c h)) hpS hMX v2 v1
            · have v1 := hv j (by omega)
              have v1 : VI 16 D (if j = m then dB (st m) U else if j = m + 1 then U else st j) (qF (bW B)) (qF (bG B)) f' := v1
              rw [if_neg q1, if_neg (by omega)] at v1
              exact v1
          · rw [sI_L, sI_L, k2, k3, sI_ne (show o + 1 ≠ o + 7 by omega), sI_ne (show o + 1 ≠ o + 7 by omega), k1]
            exact h6a c hc' hZ
          · have h : (if j = m then dB (st m) U else if j = m + 1 then U else st j) c = true := h
            intro kc R hch
            have hch : Chn (bW B) (bG B) D c kc (if j = m then dB (st m) U else if j = m + 1 then U else st j) R := hch
            by_cases q1 : j = m
            · rw [if_pos q1] at h hch
              exact h6b m c (by omega) (hLS' c h).1 (kc + 1) R ⟨U, hMX, hUne, Or.inr ⟨(hLS' c h).2, hch⟩⟩
            · rw [if_neg q1] at h hch
              by_cases q2 : j = m + 1
              · rw [if_pos q2] at h hch
                exact h6b m c (by omega) (hUS c h) (kc + 1) R ⟨U, hMX, hUne, Or.inl ⟨h, hch⟩⟩
              · rw [if_neg q2] at h hch
                exact h6b j c (by omega) h kc R hch
          · rw [sI_L, sI_L, k4]; exact h7a
          · rw [sI_L, sI_L, k4]; exact h7b
        · -- a block
          have hU0 : ∀ c, c < 16 → U c = false := sX_eq0.mp hU
          have mm : i + 1 + sN m (fun j => 2 * cN 16 (st j) - 1) ≤ 31 := by
            have : 1 ≤ cN 16 (st m) := by
              obtain ⟨c, hc', h⟩ := hsne
              rcases Nat.eq_zero_or_pos (cN 16 (st m)) with q | q
              · have := cN_eq0 16 q c hc'; rw [h] at this; cases this
              · exact q
            omega
          have hMX0 : MX 16 D (st m) (wo (bW B) (bG B) (st m)) (fun _ => false) := MX_congr (fun _ _ => rfl) hU0 (fun _ _ _ => rfl) hMX
          have wS : wT (bW B) (st m) ≤ 64 := wT_b h16 hSn hw4
          have ewt : wT (bW B) (uB Z (st m)) = wT (bW B) (st m) + wT (bW B) Z := by
            unfold wT
            rw [← sN_add]
            refine sN_congr 16 fun c _ => ?_
            have := h3b m c (by omega)
            cases q1 : Z c <;> cases q2 : st m c <;> simp_all [uB]
          have hZS : ∀ c, uB Z (st m) c = true → T c = true := fun c h => by
            simp only [uB, Bool.or_eq_true] at h
            rcases h with h | h
            · exact h3c c h
            · exact hsT c h
          have wZS : wT (bW B) (uB Z (st m)) ≤ 64 := wT_b h16 (fun c h => hT c (hZS c h)) hw4
          refine c70 ho (hFs σ4 f4') hSn hpS ⟨by rw [k4]; exact h7a, by rw [k4]; exact h7b⟩ h8 (by omega) h10 rr0 rr1 fun σ8 f8 g1 g2 g3 => ⟨rfl, ?_⟩
          have f8' : Fr LS σ σ8 := f4'.tr (f8.mono (by rw [hLS]; intro j hj; simp at hj ⊢; omega))
          have e2 : nI (m + 1) + (-1) = nI m := pk_m1 m
          rw [e2, nI_1]
          have hzS : ∀ c, Z c = true → st m c = false := fun c h => by
            cases q : st m c
            · rfl
            · rw [h3b m c (by omega) q] at h; cases h
          refine ih (i + 1) σ8 m st (uB Z (st m)) (fun c => if st m c = true then mT (bW B) (bG B) (st m) else f c) (wT (bW B) (st m) :: L) _ (by omega) ⟨f8', fun j hj => ?_, ⟨fun a b c hab hb h => h3a a b c hab (by omega) h, fun j c hj h => ?_, hZS, fun c hc' hTc => ?_⟩, mm, fun f' hz hv => ?_, ⟨fun c hc' hZ => ?_, fun j c hj h => h6b j c (by omega) h⟩, ⟨?_, g3.1, g3.2⟩, fun a ha => ?_, ?_, add_den hpS h10⟩
          · rw [(f8 (o + 7) (by simp)).1, k7]; exact h2 j (by omega)
          · have x1 := h3b j c (by omega) h
            have x2 := h3a j m c hj (by omega) h
            simp [uB, x1, x2]
          · rcases h3d c hc' hTc with h | ⟨j, hj, h⟩
            · exact Or.inl (by simp [uB, h])
            · rcases Nat.lt_or_ge j m with q | q
              · exact Or.inr ⟨j, q, h⟩
              · have : j = m := by omega
                subst this; exact Or.inl (by simp [uB, h])
          · have hS : ∀ c, c < 16 → st m c = true → f' c = mT (bW B) (bG B) (st m) := fun c hc' h => by
              exact (hz c hc' (by simp [uB, h])).trans (if_pos h)
            refine h5 f' (fun c hc' h => ?_) fun j hj => ?_
            · exact (hz c hc' (by simp [uB, h])).trans (if_neg (by rw [hzS c h]; decide))
            · rcases Nat.lt_or_ge j m with q | q
              · exact hv j q
              · have : j = m := by omega
                subst this
                exact VI_congr (fun c hc' h => (hS c hc' h).symm) (sq_leaf hpS hMX0)
          · by_cases q : st m c = true
            · have g := g1 c q
              have b := mT_in (w := bW B) (g := bG B) hpS (fun c h => hg2 c (hSn c h))
              refine ⟨?_, ?_⟩
              · show (σ8.2.1 (o + 2) c = jJ (if st m c = true then mT (bW B) (bG B) (st m) else f c).num ∧ σ8.2.1 (o + 3) c = jJ ((if st m c = true then mT (bW B) (bG B) (st m) else f c).den : Nat) ∧ (if st m c = true then mT (bW B) (bG B) (st m) else f c).den ≤ 64 ∧ 0 ≤ (if st m c = true then mT (bW B) (bG B) (st m) else f c) ∧ (if st m c = true then mT (bW B) (bG B) (st m) else f c) ≤ ((240 : Nat) : Rat))
                rw [if_pos q]
                exact ⟨g.2.1, g.2.2, mT_den hpS wS, b.1, b.2⟩
              · obtain ⟨k', hk'⟩ := h6b m c (by omega) q 0 (st m) ⟨fun _ _ => rfl, hMX0⟩
                exact ⟨st m, k', hk', hsT, g.1⟩
            · have hZc : Z c = true := by simp only [uB, Bool.or_eq_true] at hZ; rcases hZ with h | h; exact h; exact absurd h q
              have q' : st m c = false := hzS c hZc
              have g := g2 c q'
              have old := h6a c hc' hZc
              show (σ8.2.1 (o + 2) c = jJ (if st m c = true then mT (bW B) (bG B) (st m) else f c).num ∧ σ8.2.1 (o + 3) c = jJ ((if st m c = true then mT (bW B) (bG B) (st m) else f c).den : Nat) ∧ (if st m c = true then mT (bW B) (bG B) (st m) else f c).den ≤ 64 ∧ 0 ≤ (if st m c = true then mT (bW B) (bG B) (st m) else f c) ∧ (if st m c = true then mT (bW B) (bG B) (st m) else f c) ≤ ((240 : Nat) : Rat)) ∧ _
              rw [if_neg q, g.1, g.2.1, g.2.2, k1, k2, k3]
              exact old
          · rw [h7, ← sq_cost hpS]
            have hpart : ∀ c, c < 16 → (uB Z (st m) c = true ↔ Z c = true ∨ st m c = true) ∧ ¬ (Z c = true ∧ st m c = true) := fun c _ => ⟨by simp [uB], fun h => by rw [hzS c h.1] at h; exact absurd h.2 (by decide)⟩
            rw [sT_parts _ hpart]
            congr 1
            · exact sT_congr fun c _ h => by
                have q' := hzS c h
                have q : ¬ st m c = true := by rw [q']; decide
                show qF (bW B) c * ((qF (bG B) c - f c) * (qF (bG B) c - f c)) = qF (bW B) c * ((qF (bG B) c - (if st m c = true then mT (bW B) (bG B) (st m) else f c)) * (qF (bG B) c - (if st m c = true then mT (bW B) (bG B) (st m) else f c)))
                rw [if_neg q]
            · exact sT_congr fun c _ h => by
                show _ = qF (bW B) c * ((qF (bG B) c - (if st m c = true then mT (bW B) (bG B) (st m) else f c)) * (qF (bG B) c - (if st m c = true then mT (bW B) (bG B) (st m) else f c)))
                rw [if_pos h]
          · rcases List.mem_cons.mp ha with rfl | ha
            · exact ⟨hpS, wS⟩
            · exact h8 a ha
          · show wT (bW B) (st m) + sumL L = wT (bW B) (uB Z (st m))
            rw [ewt, h9]
  -- at the start
  have fw : Fr LS σ (frW σ (o + 4) 0 1 (mkRat 0 1)) := (Fr.rfl.L (by rw [hLS]; simp)).L (by rw [hLS]; simp)
  have fw7 : Fr LS σ (sI (frW σ (o + 4) 0 1 (mkRat 0 1)) (o + 7) 0 (sX T)) := fw.I (by rw [hLS]; simp)
  have t0 : (frW σ (o + 4) 0 1 (mkRat 0 1)).2.1 (o + 4) 0 = jJ (0 : Rat).num := by rw [frW, sL_of _ _ (by omega), sL_at]; rfl
  have t1 : (frW σ (o + 4) 0 1 (mkRat 0 1)).2.1 (o + 4) 1 = jJ (((0 : Rat).den : Nat) : Int) := by rw [frW, sL_at]; rfl
  have s00 : sT 16 (fun _ => false) (fun c => qF (bW B) c * ((qF (bG B) c - (0 : Rat)) * (qF (bG B) c - (0 : Rat)))) = 0 := by
    rw [sT, sQ_congr 16 (g := fun _ => 0) (fun c _ => by simp), sQ_zero]
  have w00 : wT (bW B) (fun _ => false) = 0 := rfl
  refine ⟨fun hne => ?_, fun he => ?_⟩
  · have hTne : ∃ c, c < 16 ∧ T c = true := by
      refine Classical.byContradiction fun hx => hne (sX_eq0.mpr fun c hc' => ?_)
      cases q : T c
      · rfl
      · exact absurd ⟨c, hc', q⟩ hx
    refine main 32 0 _ 1 (fun _ => T) (fun _ => false) (fun _ => 0) [] 0 rfl ⟨fw7, fun j hj => ⟨?_, fun c h => h, hTne⟩, ⟨fun a b c hab hb _ => by omega, fun _ _ _ _ => rfl, fun _ h => (by cases h), fun c _ hTc => Or.inr ⟨0, by omega, hTc⟩⟩, ?_, fun f' _ hv => hv 0 (by omega), ⟨fun _ _ h => (by cases h), fun j c hj h k R hk => ⟨k, hk⟩⟩, ⟨s00.symm, t0, t1⟩, fun _ h => (by cases h), w00.symm, Nat.dvd_refl 1⟩
    · have : j = 0 := by omega
      subst this; exact sI_at _ _ _ _
    · show 0 + (0 + (2 * cN 16 T - 1)) ≤ 31
      have := cN_max T 16; omega
  · have hT0 : ∀ c, c < 16 → T c = false := sX_eq0.mp he
    refine main 32 0 _ 0 (fun _ => T) (fun _ => false) (fun _ => 0) [] 0 rfl ⟨fw7, fun j hj => absurd hj (Nat.not_lt_zero _), ⟨fun a b c hab hb _ => absurd hb (Nat.not_lt_zero _), fun _ _ hj _ => absurd hj (Nat.not_lt_zero _), fun _ h => (by cases h), fun c hc' hTc => by rw [hT0 c hc'] at hTc; cases hTc⟩, (show 0 + 0 ≤ 31 by decide), fun f' _ _ => VI_none hT0, ⟨fun _ _ h => (by cases h), fun j c hj => absurd hj (Nat.not_lt_zero _)⟩, ⟨s00.symm, t0, t1⟩, fun _ h => (by cases h), w00.symm, Nat.dvd_refl 1⟩
end fit
