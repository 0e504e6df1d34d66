/-! CONTRACTS: the reference's runs: what one choice of beginnings costs, whole; the best choice -/
section rcost
variable {Θ : Th} {d : Nat} {σ : Mem} {Q : Po} {lv m : Nat} {B : Bk}
def xS (T : Nat → Bool) (κ st : Nat → Nat) (a s : Nat) : Nat → Bool := fun c => T c && (decide (κ c = a) && decide (st c < s))
theorem xS_iff {T : Nat → Bool} {κ st : Nat → Nat} {a s c : Nat} : xS T κ st a s c = true ↔ T c = true ∧ κ c = a ∧ st c < s := by simp only [xS, Bool.and_eq_true, decide_eq_true_eq]
def EntR (w g : Nat → Nat) (P : Nat → Bool) (mm : Nat) (σ : Mem) : Prop := σ.1 158 mm = nI (wT w P) ∧ σ.1 159 mm = nI (gT w g P) ∧ σ.2.1 160 mm = jJ ((qT w g P : Nat) : Int)
theorem kA_bit {A s : Nat} (h : A.testBit (s + 1) = true) : kA A (s + 1) = s + 1 := if_pos h
theorem kA_nobit {A s : Nat} (h : A.testBit (s + 1) = false) : kA A (s + 1) = kA A s := if_neg (by rw [h]; decide)
theorem RuC_fr {w g κ : Nat → Nat} {T : Nat → Bool} {mm : Nat} {r : Nat → Nat} {s t : Mem} (h : RuC w g T κ mm r s) (hf : ∀ j, j ≠ mm → t.1 158 j = s.1 158 j ∧ t.1 159 j = s.1 159 j ∧ t.2.1 160 j = s.2.1 160 j) : RuC w g T κ mm r t := fun j hj => by
  have := hf j (by omega)
  rw [this.1, this.2.1, this.2.2]; exact h j hj
theorem bnd_of (hk : BkOk lv B) : Bnd (bW B) (bG B) (fun c => decide (c < bN B)) := by
  obtain ⟨km, ⟨kn, klv⟩, ktp, -, kc, -⟩ := hk
  have hT : ∀ P : Nat → Bool, (∀ c, P c = true → decide (c < bN B) = true) → ∀ c, P c = true → c < bN B := fun P h c hc => of_decide_eq_true (h c hc)
  exact fun P h => ⟨wT_b (by omega) (hT P h) fun c hc => (kc c (by omega)).2.2.2.2.1, gT_b (hT P h) (fun c hc => (kc c (by omega)).2.2.2.2.1) fun c hc => (kc c (by omega)).2.2.1, qT_b (hT P h) (fun c hc => (kc c (by omega)).2.2.2.2.1) fun c hc => (kc c (by omega)).2.2.1⟩
theorem c236 {A : Nat} (hB : BkR lv B σ) (hk : BkOk lv B) (hm : m < bM B)
    (K : ∀ σ' r, Ft [158, 159, 160] σ σ' → RCost (bW B) (bG B) (fun c => decide (c < bN B)) (fun c => bS B c m) A r → (r.den ≤ 2300000 ∧ 0 ≤ r ∧ r ≤ ((921600 : Nat) : Rat)) → (σ'.2.1 124 44 = jJ r.num ∧ σ'.2.1 124 45 = jJ (r.den : Nat)) → Q none σ') :
    Cm Θ (d + 3) 236 [.ref 124, .int (nI m), .int (nI A)] σ Q := by
  have hb := bnd_of hk
  obtain ⟨km, ⟨kn, klv⟩, ktp, -, kc, -⟩ := id hk
  obtain ⟨⟨-, -, bto, -⟩, ⟨bn, -, -, bg, bw, bs⟩, -⟩ := id hB
  obtain ⟨T, hTd⟩ : ∃ T : Nat → Bool, T = fun c => decide (c < bN B) := ⟨_, rfl⟩
  obtain ⟨st, hstd⟩ : ∃ st : Nat → Nat, st = fun c => bS B c m := ⟨_, rfl⟩
  rw [← hTd] at hb K
  rw [← hstd] at K
  have hTi : ∀ c, T c = true ↔ c < bN B := fun c => by rw [hTd]; exact decide_eq_true_iff
  obtain ⟨to, hto⟩ : ∃ to, to = bTp B m := ⟨_, rfl⟩
  have hto11 : to ≤ 11 := by rw [hto]; exact (ktp m hm).2
  have hst : ∀ c, c < bN B → st c ≤ to := fun c hc => by rw [hstd, hto]; exact (kc c (by omega)).2.2.2.2.2 m hm
  have hw1 : ∀ c, c < bN B → 0 < bW B c := fun c hc => (kc c (by omega)).2.2.2.1
  obtain ⟨κ, hκ⟩ : ∃ κ : Nat → Nat, κ = fun c => kA A (st c) := ⟨_, rfl⟩
  have hκe : ∀ c, κ c = kA A (st c) := fun c => by rw [hκ]
  have keep : ∀ s : Mem, Fr [158, 159, 160] σ s → s.1 124 38 = nI (bN B) ∧ s.1 139 m = nI to ∧ (∀ c, c < bN B → s.1 140 (6 * c + m) = nI (st c) ∧ s.1 143 c = nI (bG B c) ∧ s.1 144 c = nI (bW B c)) := fun s hs =>
    ⟨by rw [(hs 124 (by simp)).1]; exact bn, by rw [(hs 139 (by simp)).1, hto]; exact bto m hm, fun c hc => ⟨by rw [(hs 140 (by simp)).1, hstd]; exact bs c m (by omega) hm, by rw [(hs 143 (by simp)).1]; exact bg c (by omega), by rw [(hs 144 (by simp)).1]; exact bw c (by omega)⟩⟩
  have vm := vp_in_nI (show m < 6 by omega) (by decide)
  refine K236 (B236_0 ?_)
  have start := loopS (α := Mem × Nat × (Nat → Nat) × Bool) (I := fun s z => Fr [158, 159, 160] σ z.1 ∧ z.2.1 ≤ s ∧ RuC (bW B) (bG B) T κ z.2.1 z.2.2.1 z.1 ∧ Pav (bW B) (bG B) T κ z.2.2.1 z.2.1 ∧ RuR (bW B) (bG B) T κ z.2.1 z.2.2.1 ∧
      ((z.2.2.2 = false ∧ (∀ c, T c = true → st c < s → κ c < z.2.2.1 z.2.1) ∧ z.2.2.1 z.2.1 ≤ s ∧ (s = 0 ∨ A.testBit s = true ∨ s = to + 1)) ∨ (z.2.2.2 = true ∧ z.2.1 + 1 ≤ s ∧ s ≤ to ∧ A.testBit s = false ∧ (∀ c, T c = true → κ c < kA A s → κ c < z.2.2.1 z.2.1) ∧ z.2.2.1 z.2.1 ≤ kA A s ∧ EntR (bW B) (bG B) (xS T κ st (kA A s) s) z.2.1 z.1)))
    (P := fun s z => G Θ (d + 3) 236 5 [some (.ref 124), some (.int (nI m)), some (.int (nI A)), some (.int (nI (z.2.1 + (if z.2.2.2 = true then 1 else 0)))), some (.int (nI s)), none] [] z.1 Q) (to + 1) ?_ ?_ (σ, 0, fun _ => 0, false) ⟨Fr.rfl, Nat.le_refl _, fun j hj => absurd hj (Nat.not_lt_zero _), ⟨rfl, fun j hj => absurd hj (Nat.not_lt_zero _)⟩, fun j hj => absurd hj (Nat.not_lt_zero _), Or.inl ⟨rfl, fun c _ h => absurd h (Nat.not_lt_zero _), Nat.le_refl _, Or.inl rfl⟩⟩
  · exact start
  · -- all steps are through
    intro ⟨t, mm, r, op⟩ ⟨h1, h2, h3, h4, h5, h6⟩
    have h1 : Fr [158, 159, 160] σ t := h1
    have h3 : RuC (bW B) (bG B) T κ mm r t := h3
    have h4 : Pav (bW B) (bG B) T κ r mm := h4
    have h5 : RuR (bW B) (bG B) T κ mm r := h5
    rcases h6 with ⟨ho, h7, h8, -⟩ | ⟨-, -, h7, -⟩
    · have ho : op = false := ho
      subst ho
      have h7 : ∀ c, T c = true → st c < to + 1 → κ c < r mm := h7
      have h2 : mm ≤ to + 1 := h2
      obtain ⟨k1, k2, k3⟩ := keep t h1
      show G Θ (d + 3) 236 5 [some (.ref 124), some (.int (nI m)), some (.int (nI A)), some (.int (nI mm)), some (.int (nI (to + 1))), none] [] t Q
      refine B236_5 ⟨vm, fun _ => ?_, fun h => absurd (by rw [nI_clamp (by omega), k2]; exact nI_lt (Nat.lt_succ_self _) (by omega)) h⟩
      have z0 : (0 : Int64) = jJ 0 := rfl
      have z1 : (1 : Int64) = jJ ((1 : Nat) : Int) := rfl
      rw [z0, z1]
      refine c211 (by decide) (by decide) (by decide) (by decide) ⟨rfl, ?_⟩
      have fw : Ft [158, 159, 160] σ (frW t 124 44 45 (mkRat 0 1)) := Ft.fw (Ft.of h1 (by decide)) _
      have g0 : (frW t 124 44 45 (mkRat 0 1)).2.1 124 44 = jJ (0 : Rat).num := by rw [frW, sL_of _ _ (by omega), sL_at]; rfl
      have g1 : (frW t 124 44 45 (mkRat 0 1)).2.1 124 45 = jJ (((0 : Rat).den : Nat) : Int) := by rw [frW, sL_at]; rfl
      have h3' : RuC (bW B) (bG B) T κ mm r (frW t 124 44 45 (mkRat 0 1)) := fun j hj => by
        rw [frW, sL_I, sL_I, sL_ne (by omega), sL_ne (by omega)]; exact h3 j hj
      generalize frW t 124 44 45 (mkRat 0 1) = t1 at fw g0 g1 h3'
      refine c236_342 (d := d) hb (by omega) h3' h4 ⟨g0, g1⟩ fun σ' f' hd hr => ?_
      have eT : ∀ c, c < 16 → T c = iv T κ 0 (r mm) c := fun c hc => bool_eq ⟨fun z => iv_iff.mpr ⟨z, Nat.zero_le _, h7 c z (by have := hst c ((hTi c).mp z); omega)⟩, fun z => (iv_iff.mp z).1⟩
      obtain ⟨hV, -⟩ := pav_VI mm h4 h5
      have hV' : VI 16 (ovk κ) T (qF (bW B)) (qF (bG B)) (fun c => fL (pM (bW B) (bG B) T κ r) r mm (κ c)) := by
        refine ⟨fun a b ha hb hTa hTb ho => hV.1 a b ha hb (by rw [← eT a ha]; exact hTa) (by rw [← eT b hb]; exact hTb) ho, fun h hi => ?_⟩
        have := hV.2 h (fun a b ha hb hTa hTb ho => hi a b ha hb (by rw [eT a ha]; exact hTa) (by rw [eT b hb]; exact hTb) ho)
        rw [show sT 16 T (fun c => qF (bW B) c * (qF (bG B) c - fL (pM (bW B) (bG B) T κ r) r mm (κ c)) * (h c - fL (pM (bW B) (bG B) T κ r) r mm (κ c))) = sT 16 (iv T κ 0 (r mm)) (fun c => qF (bW B) c * (qF (bG B) c - fL (pM (bW B) (bG B) T κ r) r mm (κ c)) * (h c - fL (pM (bW B) (bG B) T κ r) r mm (κ c))) from sQ_congr 16 fun c hc => by rw [eT c hc]]
        exact this
      have ec : sQ mm (pC (bW B) (bG B) T κ r) = sT 16 T (fun c => qF (bW B) c * ((qF (bG B) c - fL (pM (bW B) (bG B) T κ r) r mm (κ c)) * (qF (bG B) c - fL (pM (bW B) (bG B) T κ r) r mm (κ c)))) := by
        rw [← pav_cost mm h4]
        exact sQ_congr 16 fun c hc => by rw [eT c hc]
      have c120 := cost_120 (hb T (fun _ h => h)).1 (fun c _ hT => (kc c (by have := (hTi c).mp hT; omega)).2.2.1) hV'
      rw [← ec] at c120
      refine K σ' _ (fw.tr (f'.mono (by simp))) ⟨_, ?_, ec⟩ ⟨hd, c120⟩ hr
      rw [hκ] at hV' ⊢; exact hV'
    · have h7 : to + 1 ≤ to := h7
      omega
  · intro s ⟨t, mm, r, op⟩ hs ⟨h1, h2, h3, h4, h5, h6⟩ ih
    have h1 : Fr [158, 159, 160] σ t := h1
    have h2 : mm ≤ s := h2
    have h3 : RuC (bW B) (bG B) T κ mm r t := h3
    have h4 : Pav (bW B) (bG B) T κ r mm := h4
    have h5 : RuR (bW B) (bG B) T κ mm r := h5
    obtain ⟨k1, k2, k3⟩ := keep t h1
    obtain ⟨a, ha⟩ : ∃ a, a = kA A s := ⟨_, rfl⟩
    have hale : a ≤ s := by rw [ha]; exact kA_le A s
    -- the step's cases, and what follows
    have go : ∀ t1, Fr [158, 159, 160] σ t1 → RuC (bW B) (bG B) T κ mm r t1 → EntR (bW B) (bG B) (xS T κ st a s) mm t1 → (∀ c, T c = true → κ c < a → κ c < r mm) → r mm ≤ a →
        G Θ (d + 3) 236 55 [some (.ref 124), some (.int (nI m)), some (.int (nI A)), some (.int (nI (mm + 1))), some (.int (nI s)), none] [] t1 Q := by
      intro t1 f1 r1 e1 cov rle
      have vmm := vp_in_nI (show mm < 13 by omega) (by decide)
      have emm : nI (mm + 1) - 1 = nI mm := nI_pred mm
      refine B236_55 ?_
      have hsum : ∀ f : Nat → Nat, sN 16 (fun c => if xS T κ st a (s + 1) c = true then f c else 0) = sN 16 (fun c => if xS T κ st a s c = true then f c else 0) + sN (bN B) (fun c => if st c = s then f c else 0) := fun f => by
        have : sN (bN B) (fun c => if st c = s then f c else 0) = sN 16 (fun c => if T c = true ∧ st c = s then f c else 0) := by
          rw [sN_cut (n := bN B) (by omega) (fun c hc => if_neg fun z => by have := (hTi c).mp z.1; omega)]
          refine sN_congr _ fun c hc => ?_
          by_cases z : st c = s
          · rw [if_pos z, if_pos ⟨(hTi c).mpr hc, z⟩]
          · rw [if_neg z, if_neg fun y => z y.2]
        rw [this, ← sN_add]
        refine sN_congr 16 fun c _ => ?_
        by_cases z : T c = true ∧ st c = s
        · have hk : κ c = a := by rw [hκe, z.2, ha]
          rw [if_pos z, if_pos (xS_iff.mpr ⟨z.1, hk, by omega⟩), if_neg fun y => by have := (xS_iff.mp y).2.2; omega, Nat.zero_add]
        · rw [if_neg z, Nat.add_zero]
          by_cases y : xS T κ st a s c = true
          · have y' := xS_iff.mp y
            rw [if_pos y, if_pos (xS_iff.mpr ⟨y'.1, y'.2.1, by omega⟩)]; rfl
          · rw [if_neg y, if_neg fun y2 => by
              have y2 := xS_iff.mp y2
              rcases Nat.lt_or_ge (st c) s with q | q
              · exact y (xS_iff.mpr ⟨y2.1, y2.2.1, q⟩)
              · exact z ⟨y2.1, by omega⟩]
      have eW : wT (bW B) (xS T κ st a (s + 1)) = wT (bW B) (xS T κ st a s) + sN (bN B) (fun c => if st c = s then bW B c else 0) := hsum (bW B)
      have eS : gT (bW B) (bG B) (xS T κ st a (s + 1)) = gT (bW B) (bG B) (xS T κ st a s) + sN (bN B) (fun c => if st c = s then bW B c * bG B c else 0) := hsum fun c => bW B c * bG B c
      have eQ : qT (bW B) (bG B) (xS T κ st a (s + 1)) = qT (bW B) (bG B) (xS T κ st a s) + sN (bN B) (fun c => if st c = s then bW B c * bG B c * bG B c else 0) := hsum fun c => bW B c * bG B c * bG B c
      have bX := hb (xS T κ st a (s + 1)) (fun c h => (xS_iff.mp h).1)
      refine loopS (α := Mem) (I := fun i u => Fr [158, 159, 160] σ u ∧ RuC (bW B) (bG B) T κ mm r u ∧ u.1 158 mm = nI (wT (bW B) (xS T κ st a s) + sN i (fun c => if st c = s then bW B c else 0)) ∧ u.1 159 mm = nI (gT (bW B) (bG B) (xS T κ st a s) + sN i (fun c => if st c = s then bW B c * bG B c else 0)) ∧ u.2.1 160 mm = jJ ((qT (bW B) (bG B) (xS T κ st a s) + sN i (fun c => if st c = s then bW B c * bG B c * bG B c else 0) : Nat) : Int))
        (P := fun i u => G Θ (d + 3) 236 58 [some (.ref 124), some (.int (nI m)), some (.int (nI A)), some (.int (nI (mm + 1))), some (.int (nI s)), some (.int (nI i))] [] u Q) (bN B) ?_ ?_ t1 ⟨f1, r1, e1.1, e1.2.1, e1.2.2⟩
      · intro u ⟨u1, u2, u3, u4, u5⟩
        rw [← eW] at u3
        rw [← eS] at u4
        rw [← eQ] at u5
        obtain ⟨j1, j2, j3⟩ := keep u u1
        -- the run ends here
        have last : (s = to ∨ A.testBit (s + 1) = true) → G Θ (d + 3) 236 197 [some (.ref 124), some (.int (nI m)), some (.int (nI A)), some (.int (nI (mm + 1))), some (.int (nI s)), none] [] u Q := fun hl => by
          have big : ∀ c, T c = true → s < st c → s < κ c := fun c hT hgt => by
            rcases hl with z | z
            · have := hst c ((hTi c).mp hT); omega
            · have h8 := kA_mono A (show s + 1 ≤ st c by omega)
              rw [kA_bit z] at h8
              rw [hκe]; omega
          have small : ∀ c, st c ≤ s → κ c ≤ a := fun c h => by rw [hκe, ha]; exact kA_mono A h
          have next0 : (s + 1 = 0 ∨ A.testBit (s + 1) = true ∨ s + 1 = to + 1) := by rcases hl with z | z; exact Or.inr (Or.inr (by omega)); exact Or.inr (Or.inl z)
          refine B236_197 ?_
          rw [emm]
          refine ⟨vmm, ?_⟩
          rw [nI_clamp (by omega), u3]
          refine ⟨fun hne => ?_, fun hz => ?_⟩
          · have hpos : 0 < wT (bW B) (xS T κ st a (s + 1)) := by
              rcases Nat.eq_zero_or_pos (wT (bW B) (xS T κ st a (s + 1))) with z | z
              · rw [z] at hne; exact absurd nI_0 hne
              · exact z
            obtain ⟨q2, hq2⟩ : ∃ q2 : Nat → Nat, q2 = fun j => if j = mm + 1 then s + 1 else r j := ⟨_, rfl⟩
            have ea : q2 (mm + 1) = s + 1 := by rw [hq2]; exact if_pos rfl
            have eb : ∀ j, j ≤ mm → q2 j = r j := fun j hj => by rw [hq2]; exact if_neg (by omega)
            have eI : ∀ c, iv T κ (r mm) (s + 1) c = xS T κ st a (s + 1) c := fun c => bool_eq ⟨fun z => by
              have z := iv_iff.mp z
              have hs1 : st c ≤ s := by
                rcases Nat.lt_or_ge s (st c) with y | y
                · have := big c z.1 y; omega
                · exact y
              refine xS_iff.mpr ⟨z.1, ?_, by omega⟩
              have := small c hs1
              rcases Nat.lt_or_ge (κ c) a with y | y
              · have := cov c z.1 y; omega
              · omega, fun z => by
              have z := xS_iff.mp z
              exact iv_iff.mpr ⟨z.1, by omega, by omega⟩⟩
            have eI' : iv T κ (r mm) (s + 1) = xS T κ st a (s + 1) := funext eI
            have rows : RuC (bW B) (bG B) T κ (mm + 1) q2 u := fun j hj => by
              rcases Nat.lt_or_ge j mm with z | z
              · have := u2 j z
                show u.1 158 j = nI (wT (bW B) (iv T κ (q2 j) (q2 (j + 1)))) ∧ u.1 159 j = nI (gT (bW B) (bG B) (iv T κ (q2 j) (q2 (j + 1)))) ∧ u.2.1 160 j = jJ ((qT (bW B) (bG B) (iv T κ (q2 j) (q2 (j + 1))) : Nat) : Int)
                rw [eb j (by omega), eb (j + 1) (by omega)]; exact this
              · have : j = mm := by omega
                subst this
                show u.1 158 j = nI (wT (bW B) (iv T κ (q2 j) (q2 (j + 1)))) ∧ u.1 159 j = nI (gT (bW B) (bG B) (iv T κ (q2 j) (q2 (j + 1)))) ∧ u.2.1 160 j = jJ ((qT (bW B) (bG B) (iv T κ (q2 j) (q2 (j + 1))) : Nat) : Int)
                rw [ea, eb j (by omega), eI']; exact ⟨u3, u4, u5⟩
            have pav : Pav (bW B) (bG B) T κ q2 (mm + 1) := ⟨by rw [eb 0 (by omega)]; exact h4.1, fun j hj => by
              rcases Nat.lt_or_ge j mm with z | z
              · rw [eb j (by omega), eb (j + 1) (by omega)]; exact h4.2 j z
              · have : j = mm := by omega
                subst this
                rw [ea, eb j (by omega)]
                exact ⟨by omega, by rw [eI']; exact hpos, leaf_same (x0 := a) fun c _ hc => by rw [eI c] at hc; exact (xS_iff.mp hc).2.1⟩⟩
            have rur : RuR (bW B) (bG B) T κ mm q2 := fun j hj => by
              have := h5 j hj
              show gT (bW B) (bG B) (iv T κ (q2 j) (q2 (j + 1))) * wT (bW B) (iv T κ (q2 (j + 1)) (q2 (j + 1 + 1))) ≤ gT (bW B) (bG B) (iv T κ (q2 (j + 1)) (q2 (j + 1 + 1))) * wT (bW B) (iv T κ (q2 j) (q2 (j + 1)))
              rw [eb j (by omega), eb (j + 1) (by omega), eb (j + 1 + 1) (by omega)]; exact this
            refine c236_223 (d := d + 2) hb mm q2 u Q (by omega) rows pav rur fun σ' m' r' g1 g2 g3 g4 g5 g6 => ?_
            refine B236_327 ?_
            rw [nI_1]
            have e6 : r' (m' + 1) = s + 1 := by rw [g6, ea]
            exact ih (σ', m' + 1, r', false) ⟨u1.tr g1, by show m' + 1 ≤ s + 1; omega, g3, g4, g5, Or.inl ⟨rfl, fun c hc hx => by show κ c < r' (m' + 1); rw [e6, hκe]; have := kA_le A (st c); omega, by show r' (m' + 1) ≤ s + 1; omega, next0⟩⟩
          · have hz0 : wT (bW B) (xS T κ st a (s + 1)) = 0 := by
              rcases Nat.eq_zero_or_pos (wT (bW B) (xS T κ st a (s + 1))) with z | z
              · exact z
              · exact absurd hz (nI_ne0 z (by omega))
            rw [ix1]
            have cov2 : ∀ c, T c = true → st c < s + 1 → κ c < r mm := fun c hT hx => by
              rcases Nat.lt_or_ge (κ c) a with y | y
              · exact cov c hT y
              · exfalso
                have := small c (by omega)
                have hcn := (hTi c).mp hT
                have := wT_pos (w := bW B) (T := xS T κ st a (s + 1)) (fun c _ h => hw1 c ((hTi c).mp (xS_iff.mp h).1)) (show c < 16 by omega) (xS_iff.mpr ⟨hT, by omega, hx⟩)
                omega
            cases mm with
            | zero =>
              refine B236_223 ⟨fun h => absurd h (by decide), fun _ => ⟨fun _ => ?_, fun h => absurd (nI_le (a := 0) (b := 1) (by omega) (by decide)) h⟩⟩
              refine B236_327 ?_
              rw [nI_1]
              exact ih (u, 0, r, false) ⟨u1, Nat.zero_le _, u2, h4, h5, Or.inl ⟨rfl, cov2, by show r 0 ≤ s + 1; omega, next0⟩⟩
            | succ mm =>
              refine c236_223 (d := d + 2) hb mm r u Q (by omega) u2 h4 (fun j hj => h5 j (by omega)) fun σ' m' r' g1 g2 g3 g4 g5 g6 => ?_
              refine B236_327 ?_
              rw [nI_1]
              exact ih (σ', m' + 1, r', false) ⟨u1.tr g1, by show m' + 1 ≤ s + 1; omega, g3, g4, g5, Or.inl ⟨rfl, fun c hc hx => by show κ c < r' (m' + 1); rw [g6]; exact cov2 c hc hx, by show r' (m' + 1) ≤ s + 1; rw [g6]; omega, next0⟩⟩
        refine B236_58 ⟨fun _ => ⟨vm, ?_⟩, fun h => absurd (by rw [j1]; exact nI_le (Nat.le_refl _) (by omega)) h⟩
        rw [nI_clamp (by omega), j2, nI_eq (by omega) (by omega), nI_1, bt_shr _ (by omega), bt_nI _ (by omega), bt_eq1]
        refine ⟨fun h => last (Or.inl h), fun h => ⟨fun h9 => ?_, fun h9 => last (Or.inr h9)⟩⟩
        have hnb : A.testBit (s + 1) = false := by cases z : A.testBit (s + 1); rfl; exact absurd z h9
        refine B236_223 ⟨fun _ => ?_, fun h => absurd rfl h⟩
        refine B236_327 ?_
        rw [nI_1]
        have ek : kA A (s + 1) = a := by rw [kA_nobit hnb, ha]
        refine ih (u, mm, r, true) ⟨u1, by show mm ≤ s + 1; omega, u2, h4, h5, Or.inr ⟨rfl, by show mm + 1 ≤ s + 1; omega, by omega, hnb, ?_, ?_, ?_⟩⟩
        · rw [ek]; exact cov
        · rw [ek]; exact rle
        · rw [ek]; exact ⟨u3, u4, u5⟩
      · intro i u hi ⟨u1, u2, u3, u4, u5⟩ ih2
        obtain ⟨j1, j2, j3⟩ := keep u u1
        obtain ⟨b1, b2, b3⟩ := j3 i hi
        have v96 : vp_in (nI (6 * i + m)) 96 := vp_in_nI (by omega) (by decide)
        have vi := vp_in_nI (show i < 16 by omega) (by decide)
        have sl := hst i hi
        have s1 : sN (i + 1) (fun c => if st c = s then bW B c else 0) = sN i (fun c => if st c = s then bW B c else 0) + (if st i = s then bW B i else 0) := rfl
        have s2 : sN (i + 1) (fun c => if st c = s then bW B c * bG B c else 0) = sN i (fun c => if st c = s then bW B c * bG B c else 0) + (if st i = s then bW B i * bG B i else 0) := rfl
        have s3 : sN (i + 1) (fun c => if st c = s then bW B c * bG B c * bG B c else 0) = sN i (fun c => if st c = s then bW B c * bG B c * bG B c else 0) + (if st i = s then bW B i * bG B i * bG B i else 0) := rfl
        refine B236_58 ⟨fun h => absurd h (by rw [j1]; exact nI_ge hi (by omega)), fun _ => ?_⟩
        rw [ix6', emm]
        refine ⟨v96, ?_⟩
        rw [nI_clamp (show 6 * i + m < 2147483648 by omega), nI_clamp (show i < 2147483648 by omega), nI_clamp (show mm < 2147483648 by omega), b1, nI_eq (by omega) (by omega)]
        have wi := (kc i (by omega)).2.2.2.2.1
        have gi := (kc i (by omega)).2.2.1
        refine ⟨fun h => ⟨vmm, vi, vmm, vmm, vi, vi, vmm, vmm, vi, vi, vi, vmm, ?_⟩, fun h => ?_⟩
        · rw [if_pos h] at s1 s2 s3
          rw [u3, b3, nI_add]
          obtain ⟨x1, hx1⟩ : ∃ x1, x1 = sI u 158 mm (nI (wT (bW B) (xS T κ st a s) + sN i (fun c => if st c = s then bW B c else 0) + bW B i)) := ⟨_, rfl⟩
          rw [← hx1]
          have y1 : x1.1 159 mm = u.1 159 mm := by rw [hx1, sI_of _ _ (by omega)]
          have y2 : x1.1 144 i = u.1 144 i := by rw [hx1, sI_of _ _ (by omega)]
          have y3 : x1.1 143 i = u.1 143 i := by rw [hx1, sI_of _ _ (by omega)]
          rw [y1, y2, y3, u4, b3, b2, pk_mul, nI_add]
          obtain ⟨x2, hx2⟩ : ∃ x2, x2 = sI x1 159 mm (nI (gT (bW B) (bG B) (xS T κ st a s) + sN i (fun c => if st c = s then bW B c * bG B c else 0) + bW B i * bG B i)) := ⟨_, rfl⟩
          rw [← hx2]
          have y4 : x2.2.1 160 mm = u.2.1 160 mm := by rw [hx2, sI_L, hx1, sI_L]
          have y5 : x2.1 144 i = u.1 144 i := by rw [hx2, sI_of _ _ (by omega)]; exact y2
          have y6 : x2.1 143 i = u.1 143 i := by rw [hx2, sI_of _ _ (by omega)]; exact y3
          rw [y4, y5, y6, u5, b3, b2, nI_j (by omega), nI_j (by omega), jJ_mul, jJ_mul, jJ_add, ← Int.natCast_mul, ← Int.natCast_mul, ← Int.natCast_add]
          refine B236_168 ?_
          rw [nI_1]
          refine ih2 _ ⟨?_, RuC_fr u2 (fun j hj => ?_), ?_, ?_, ?_⟩
          · rw [hx2, hx1]; exact ((u1.I (by simp)).I (by simp)).L (by simp)
          · refine ⟨?_, ?_, ?_⟩
            · rw [sL_I, hx2, sI_of _ _ (by omega), hx1, sI_of _ _ (by omega)]
            · rw [sL_I, hx2, sI_of _ _ (by omega), hx1, sI_of _ _ (by omega)]
            · rw [sL_of _ _ (by omega), hx2, sI_L, hx1, sI_L]
          · rw [sL_I, hx2, sI_of _ _ (by omega), hx1, sI_at, s1, Nat.add_assoc]
          · rw [sL_I, hx2, sI_at, s2, Nat.add_assoc]
          · rw [sL_at, s3, Nat.add_assoc]
        · rw [if_neg h, Nat.add_zero] at s1 s2 s3
          refine B236_168 ?_
          rw [nI_1]
          exact ih2 u ⟨u1, u2, by rw [s1]; exact u3, by rw [s2]; exact u4, by rw [s3]; exact u5⟩
    -- a new run
    have push : (op = false) → (∀ c, T c = true → st c < s → κ c < r mm) → r mm ≤ s → (s = 0 ∨ A.testBit s = true) → G Θ (d + 3) 236 31 [some (.ref 124), some (.int (nI m)), some (.int (nI A)), some (.int (nI mm)), some (.int (nI s)), none] [] t Q := fun _ cov rle hb0 => by
      have vmm := vp_in_nI (show mm < 13 by omega) (by decide)
      have hka : a = s := by
        rcases hb0 with z | z
        · rw [ha, z]; rfl
        · rw [ha]
          cases s with
          | zero => rfl
          | succ s => exact kA_bit z
      have hempty : ∀ c, xS T κ st a s c = false := fun c => by
        cases z : xS T κ st a s c
        · rfl
        · have z := xS_iff.mp z
          have := kA_le A (st c)
          rw [hκe] at z
          omega
      have z1 : wT (bW B) (xS T κ st a s) = 0 ∧ gT (bW B) (bG B) (xS T κ st a s) = 0 := wT_0 fun c _ => hempty c
      have z2 : qT (bW B) (bG B) (xS T κ st a s) = 0 := by
        show sN 16 _ = 0
        rw [sN_congr 16 (g := fun _ => 0) (fun c _ => by rw [hempty c]; rfl)]; rfl
      refine B236_31 ⟨vmm, vmm, vmm, ?_⟩
      rw [nI_1, nI_clamp (by omega)]
      refine go _ (((h1.I (by simp)).I (by simp)).L (by simp)) (RuC_fr h3 fun j hj => ⟨?_, ?_, ?_⟩) ⟨?_, ?_, ?_⟩ (fun c hT hx => ?_) (by omega)
      · rw [sL_I, sI_of _ _ (by omega), sI_of _ _ (by omega)]
      · rw [sL_I, sI_of _ _ (by omega), sI_of _ _ (by omega)]
      · rw [sL_of _ _ (by omega), sI_L, sI_L]
      · rw [sL_I, sI_of _ _ (by omega), sI_at, z1.1]; rfl
      · rw [sL_I, sI_at, z1.2]; rfl
      · rw [sL_at, z2]; rfl
      · refine cov c hT ?_
        rcases Nat.lt_or_ge (st c) s with y | y
        · exact y
        · have h8 := kA_mono A y
          rw [hκe] at hx
          omega
    have c5 : ¬ nI to < nI s := nI_nlt (by omega) (by omega)
    rcases h6 with ⟨ho, h7, h8, h9⟩ | ⟨ho, h7, h8, h9, h10, h11, h12⟩
    · have ho : op = false := ho
      subst ho
      have h7 : ∀ c, T c = true → st c < s → κ c < r mm := h7
      have h8 : r mm ≤ s := h8
      show G Θ (d + 3) 236 5 [some (.ref 124), some (.int (nI m)), some (.int (nI A)), some (.int (nI mm)), some (.int (nI s)), none] [] t Q
      refine B236_5 ⟨vm, fun h => absurd h (by rw [nI_clamp (by omega), k2]; exact c5), fun _ => ⟨fun h => ?_, fun h => ?_⟩⟩
      · have s0 : s = 0 := by
          rcases Nat.eq_zero_or_pos s with z | z
          · exact z
          · exact absurd h (nI_ne0 z (by omega))
        exact push rfl h7 h8 (Or.inl s0)
      · rw [bt_shr _ (by omega), bt_nI _ (by omega), bt_eq1]
        have hb9 : A.testBit s = true := by
          rcases h9 with z | z | z
          · exfalso; refine h ?_; rw [z]; exact nI_0
          · exact z
          · omega
        exact ⟨fun h => absurd hb9 h, fun _ => push rfl h7 h8 (Or.inr hb9)⟩
    · have ho : op = true := ho
      subst ho
      have h9 : A.testBit s = false := h9
      have h7 : mm + 1 ≤ s := h7
      show G Θ (d + 3) 236 5 [some (.ref 124), some (.int (nI m)), some (.int (nI A)), some (.int (nI (mm + 1))), some (.int (nI s)), none] [] t Q
      refine B236_5 ⟨vm, fun h => absurd h (by rw [nI_clamp (by omega), k2]; exact c5), fun _ => ⟨fun h => absurd h (nI_ne0 (by omega) (by omega)), fun _ => ?_⟩⟩
      rw [bt_shr _ (by omega), bt_nI _ (by omega), bt_eq1]
      refine ⟨fun _ => ?_, fun h => by rw [h9] at h; cases h⟩
      rw [← ha] at h10 h11 h12
      exact go t h1 h3 h12 h10 h11
end rcost
