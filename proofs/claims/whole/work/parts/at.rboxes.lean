/-! THE CALLS: keep, back, come: the reference -/
section rboxes
variable {Θ : Th} {d : Nat} {σ : Mem} {Q : Po} {s : St}
theorem p96 {a b c : Nat} : (nI c * nI a) + nI b = nI (c * a + b) := by rw [pk_mul, nI_add]
theorem k283 {x1 : Int32} (h : RR s σ) (ok : OkS s) (K : ∀ σ', CR σ σ' → RR (stKp s x1) σ' → Q (some (.int (qKe s x1))) σ') : Cm Θ (d + 1) 283 [.ref 124, .int x1] σ Q := by
  have h16 := bk16 ok
  have hkB := ok.2.1.1
  have hm6 := bm6 hkB
  have hlv : bN s.B ≤ s.lv := by have := hkB.2.1; omega
  unfold stKp qKe at K
  refine K283 (B283_0 (c282 ⟨_, rfl, fun z => ?_, fun z => ?_⟩))
  rotate_left
  · rw [b01_0] at z; rw [z] at K; exact K σ cR_rfl h
  rw [b01_n] at z
  obtain ⟨i, hi, e1⟩ := isN_ex (dP_iff.mp z) (by omega)
  rw [z, if_pos rfl, if_pos rfl, e1, nI_clamp (by omega)] at K
  have vi := vp_in_nI hi (by decide)
  have n1 : vp_nar .boolean 1 = b01 true := by decide
  rw [e1, nI_clamp (by omega), sI_of _ _ (show ¬ (124 = 177 ∧ 38 = i) by omega), h.2.1.2.1.1, n1]
  refine ⟨vi, vi, ?_⟩
  obtain ⟨τ, hτ⟩ : ∃ τ, τ = sI (sI σ 177 i (b01 true)) 179 i (nI (bN s.B)) := ⟨_, rfl⟩
  rw [← hτ]
  have f0 : Fr [177, 179] σ τ := by rw [hτ]; exact (Fr.rfl.I (by simp)).I (by simp)
  have i_le' : ∀ x y : Nat, x < 1000000 → y < 1000000 → (nI x ≤ nI y ↔ x ≤ y) := fun x y hx hy => by rw [i_le, nI_int (by omega), nI_int (by omega)]; omega
  -- what the copies lead to
  have fin : ∀ t : Mem, Fr [177, 178, 179, 180, 181, 182, 183, 184] σ t → t.1 177 = τ.1 177 → t.1 179 = τ.1 179 → (∀ j, j < 96 → t.1 180 (96 * i + j) = σ.1 140 j) → (∀ j, j < 6 → t.1 178 (6 * i + j) = b01 (bCt s.B j)) → (∀ j, j < 16 → t.1 181 (16 * i + j) = σ.1 141 j ∧ t.1 182 (16 * i + j) = σ.1 142 j ∧ t.1 183 (16 * i + j) = σ.1 143 j ∧ t.1 184 (16 * i + j) = σ.1 144 j) →
      (∀ k, k < 3 → k ≠ i → (∀ j, j < 96 → t.1 180 (96 * k + j) = σ.1 180 (96 * k + j)) ∧ (∀ j, j < 6 → t.1 178 (6 * k + j) = σ.1 178 (6 * k + j)) ∧ ∀ j, j < 16 → t.1 181 (16 * k + j) = σ.1 181 (16 * k + j) ∧ t.1 182 (16 * k + j) = σ.1 182 (16 * k + j) ∧ t.1 183 (16 * k + j) = σ.1 183 (16 * k + j) ∧ t.1 184 (16 * k + j) = σ.1 184 (16 * k + j)) → Q (some (.int (t.1 124 38))) t := by
    intro t F e177 e179 a1 a2 a3 a4
    have e124 : t.1 124 = σ.1 124 := (F 124 (by decide)).1
    rw [e124, h.2.1.2.1.1]
    obtain ⟨tt, bk, nw, lw, ac, xc⟩ := h
    have e : ∀ x, x < 177 → t.1 x = σ.1 x ∧ t.2.1 x = σ.2.1 x := fun x hx => ⟨(F x (by simp; omega)).1, (F x (by simp; omega)).2.1⟩
    refine K t (cR_fr F fun x hx => by simp at hx; omega) ⟨by unfold TR; rw [(e 124 (by decide)).1, (e 125 (by decide)).1]; exact tt, BkR_eq (fun j b c => e j (by omega)) (by rw [e124]) (by rw [e124]) (by rw [e124]) bk, fun m hm => by rw [(e 173 (by decide)).1]; exact nw m hm, LwF_eq (fun j b c => (e j (by omega)).1) (by rw [e124]) lw, AcR_eq (by rw [e124]) (by rw [e124]) (e 174 (by decide)).1 (e 175 (by decide)).1 (e 176 (by decide)).1 ac, fun j hj => ?_⟩
    show t.1 177 j = b01 (if j = i then (true, s.B) else s.x j).1 ∧ ((if j = i then (true, s.B) else s.x j).1 = true → BxR j (if j = i then (true, s.B) else s.x j).2 t)
    by_cases q : j = i
    · rw [if_pos q, q]
      refine ⟨by rw [e177, hτ, sI_of _ _ (by omega), sI_at], fun _ => ?_⟩
      show BxR i s.B t
      obtain ⟨-, ⟨b1, b2, b3, b4, b5, b6⟩, -⟩ := bk
      refine ⟨⟨fun m hm => a2 m hm, by rw [e179, hτ, sI_at]⟩, fun c hc => ?_, fun c m hc hm => ?_⟩
      · obtain ⟨g1, g2, g3, g4⟩ := a3 c (by omega)
        exact ⟨by rw [g1]; exact b2 c (by omega), by rw [g2]; exact b3 c (by omega), by rw [g3]; exact b4 c (by omega), by rw [g4]; exact b5 c (by omega)⟩
      · rw [a1 _ (by omega)]; exact b6 c m (by omega) hm
    · rw [if_neg q]
      obtain ⟨g1, g2⟩ := xc j hj
      have e2 : τ.1 177 j = σ.1 177 j := by rw [hτ, sI_of _ _ (by omega), sI_of _ _ (by omega)]
      have e3 : τ.1 179 j = σ.1 179 j := by rw [hτ, sI_of _ _ (by omega), sI_of _ _ (by omega)]
      refine ⟨by rw [e177, e2]; exact g1, fun w => ?_⟩
      obtain ⟨⟨p1, p2⟩, p3, p4⟩ := g2 w
      obtain ⟨z1, z2, z3⟩ := a4 j hj q
      have xo := ok.2.2.2.2 j hj w
      have x16 : bN (s.x j).2 ≤ 16 := xo.2.2.2.2.2.2.1.2.1.2
      have xm : bM (s.x j).2 ≤ 6 := xo.2.2.2.2.2.2.1.1
      refine ⟨⟨fun m hm => by rw [z2 m hm]; exact p1 m hm, by rw [e179, e3]; exact p2⟩, fun c hc => ?_, fun c m hc hm => ?_⟩
      · obtain ⟨y1, y2, y3, y4⟩ := z3 c (by omega)
        rw [y1, y2, y3, y4]; exact p3 c hc
      · rw [z1 _ (by omega)]; exact p4 c m hc hm
  have lp1 := loopS (α := Mem) (I := fun k t => Fr [180] τ t ∧ ∀ j, t.1 180 j = if 96 * i ≤ j ∧ j < 96 * i + k then σ.1 140 (j - 96 * i) else τ.1 180 j) (P := fun k t => G Θ (d + 1) 283 28 [some (.ref 124), some (.int (nI i)), some (.int (nI k))] [] t Q) 96 ?_ ?_ τ ⟨Fr.rfl, fun j => by rw [if_neg (by omega)]⟩
  · exact lp1
  · intro t1 ⟨ft1, g1⟩
    refine B283_28 ⟨fun _ => ?_, fun z => absurd (by decide) z⟩
    have lp2 := loopS (α := Mem) (I := fun k t => Fr [178] t1 t ∧ ∀ j, t.1 178 j = if 6 * i ≤ j ∧ j < 6 * i + k then b01 (bCt s.B (j - 6 * i)) else t1.1 178 j) (P := fun k t => G Θ (d + 1) 283 59 [some (.ref 124), some (.int (nI i)), some (.int (nI k))] [] t Q) 6 ?_ ?_ t1 ⟨Fr.rfl, fun j => by rw [if_neg (by omega)]⟩
    · exact lp2
    · intro t2 ⟨ft2, g2⟩
      refine B283_59 ⟨fun _ => ?_, fun z => absurd (by decide) z⟩
      have lp3 := loopS (α := Mem) (I := fun k t => Fr [181, 182, 183, 184] t2 t ∧ ∀ l, l < 4 → ∀ j, t.1 (181 + l) j = if 16 * i ≤ j ∧ j < 16 * i + k then σ.1 (141 + l) (j - 16 * i) else t2.1 (181 + l) j) (P := fun k t => G Θ (d + 1) 283 90 [some (.ref 124), some (.int (nI i)), some (.int (nI k))] [] t Q) 16 ?_ ?_ t2 ⟨Fr.rfl, fun l hl j => by rw [if_neg (by omega)]⟩
      · exact lp3
      · intro t3 ⟨ft3, g3⟩
        refine B283_90 ⟨fun _ => ?_, fun z => absurd (by decide) z⟩
        have F : Fr [177, 178, 179, 180, 181, 182, 183, 184] σ t3 := (f0.mono (by intro x hx; simp at hx; simp; omega)).tr ((ft1.mono (by intro x hx; simp at hx; simp; omega)).tr ((ft2.mono (by intro x hx; simp at hx; simp; omega)).tr (ft3.mono (by intro x hx; simp at hx; simp; omega))))
        have e180 : t3.1 180 = t1.1 180 := by rw [(ft3 180 (by decide)).1, (ft2 180 (by decide)).1]
        have e178 : t3.1 178 = t2.1 178 := (ft3 178 (by decide)).1
        have e1x : ∀ l, l < 4 → t2.1 (181 + l) = σ.1 (181 + l) := fun l hl => by rw [(ft2 (181 + l) (by simp; omega)).1, (ft1 (181 + l) (by simp; omega)).1, (f0 (181 + l) (by simp; omega)).1]
        have g3' := fun l (hl : l < 4) j => by have := g3 l hl j; rw [e1x l hl] at this; exact this
        have s178 : t1.1 178 = σ.1 178 := by rw [(ft1 178 (by decide)).1, (f0 178 (by decide)).1]
        have s180 : τ.1 180 = σ.1 180 := (f0 180 (by decide)).1
        refine fin t3 F (by rw [(ft3 177 (by decide)).1, (ft2 177 (by decide)).1, (ft1 177 (by decide)).1]) (by rw [(ft3 179 (by decide)).1, (ft2 179 (by decide)).1, (ft1 179 (by decide)).1]) (fun j hj => ?_) (fun j hj => ?_) (fun j hj => ?_) (fun k hk hki => ⟨fun j hj => ?_, fun j hj => ?_, fun j hj => ?_⟩)
        · rw [e180, g1, if_pos (by omega), Nat.add_sub_cancel_left]
        · rw [e178, g2, if_pos (by omega), Nat.add_sub_cancel_left]
        · have y : ∀ l, l < 4 → t3.1 (181 + l) (16 * i + j) = σ.1 (141 + l) j := fun l hl => by rw [g3' l hl, if_pos (by omega), Nat.add_sub_cancel_left]
          exact ⟨y 0 (by omega), y 1 (by omega), y 2 (by omega), y 3 (by omega)⟩
        · rw [e180, g1, if_neg (by omega), s180]
        · rw [e178, g2, if_neg (by omega), s178]
        · have y : ∀ l, l < 4 → t3.1 (181 + l) (16 * k + j) = σ.1 (181 + l) (16 * k + j) := fun l hl => by rw [g3' l hl, if_neg (by omega)]
          exact ⟨y 0 (by omega), y 1 (by omega), y 2 (by omega), y 3 (by omega)⟩
      · intro k t hk ⟨ft, g⟩ ih
        have v1 := vp_in_nI (show k < 16 from hk) (by decide)
        have v2 := vp_in_nI (show 16 * i + k < 48 by omega) (by decide)
        have src : ∀ l, 141 ≤ l → l ≤ 144 → t.1 l = σ.1 l := fun l l1 l2 => by rw [(ft l (by simp; omega)).1, (ft2 l (by simp; omega)).1, (ft1 l (by simp; omega)).1, (f0 l (by simp; omega)).1]
        refine B283_90 ⟨fun z => absurd z (by rw [show (16 : Int32) = nI 16 from rfl, i_le' _ _ (by omega) (by omega)]; omega), fun _ => ?_⟩
        rw [show (16 : Int32) * nI i + nI k = nI (16 * i + k) from p96, nI_clamp (show k < 2147483648 by omega), nI_clamp (show 16 * i + k < 2147483648 by omega), nI_1]
        rw [sI_of _ _ (show ¬ (142 = 181 ∧ k = 16 * i + k) by omega), sI_of _ _ (show ¬ (143 = 182 ∧ k = 16 * i + k) by omega), sI_of _ _ (show ¬ (143 = 181 ∧ k = 16 * i + k) by omega), sI_of _ _ (show ¬ (144 = 183 ∧ k = 16 * i + k) by omega), sI_of _ _ (show ¬ (144 = 182 ∧ k = 16 * i + k) by omega), sI_of _ _ (show ¬ (144 = 181 ∧ k = 16 * i + k) by omega), src 141 (by omega) (by omega), src 142 (by omega) (by omega), src 143 (by omega) (by omega), src 144 (by omega) (by omega)]
        refine ⟨v1, v2, v1, v2, v1, v2, v1, v2, ih _ ⟨(((ft.I (by simp)).I (by simp)).I (by simp)).I (by simp), fun l hl j => ?_⟩⟩
        have gl := g l hl j
        rcases (show l = 0 ∨ l = 1 ∨ l = 2 ∨ l = 3 by omega) with w | w | w | w <;> subst w
        · rw [sI_of _ _ (by omega), sI_of _ _ (by omega), sI_of _ _ (by omega)]
          by_cases q : j = 16 * i + k
          · rw [q, sI_at, if_pos (by omega), Nat.add_sub_cancel_left]
          · rw [sI_of _ _ (by omega), gl]; by_cases u : 16 * i ≤ j ∧ j < 16 * i + k
            · rw [if_pos u, if_pos (by omega)]
            · rw [if_neg u, if_neg (by omega)]
        · rw [sI_of _ _ (by omega), sI_of _ _ (by omega)]
          by_cases q : j = 16 * i + k
          · rw [q, sI_at, if_pos (by omega), Nat.add_sub_cancel_left]
          · rw [sI_of _ _ (by omega), sI_of _ _ (by omega), gl]; by_cases u : 16 * i ≤ j ∧ j < 16 * i + k
            · rw [if_pos u, if_pos (by omega)]
            · rw [if_neg u, if_neg (by omega)]
        · rw [sI_of _ _ (by omega)]
          by_cases q : j = 16 * i + k
          · rw [q, sI_at, if_pos (by omega), Nat.add_sub_cancel_left]
          · rw [sI_of _ _ (by omega), sI_of _ _ (by omega), sI_of _ _ (by omega), gl]; by_cases u : 16 * i ≤ j ∧ j < 16 * i + k
            · rw [if_pos u, if_pos (by omega)]
            · rw [if_neg u, if_neg (by omega)]
        · by_cases q : j = 16 * i + k
          · rw [q, sI_at, if_pos (by omega), Nat.add_sub_cancel_left]
          · rw [sI_of _ _ (by omega), sI_of _ _ (by omega), sI_of _ _ (by omega), sI_of _ _ (by omega), gl]; by_cases u : 16 * i ≤ j ∧ j < 16 * i + k
            · rw [if_pos u, if_pos (by omega)]
            · rw [if_neg u, if_neg (by omega)]
    · intro k t hk ⟨ft, g⟩ ih
      have v1 := vp_in_nI (show k < 6 from hk) (by decide)
      have v2 := vp_in_nI (show 6 * i + k < 18 by omega) (by decide)
      have src : t.1 147 = σ.1 147 := by rw [(ft 147 (by decide)).1, (ft1 147 (by decide)).1, (f0 147 (by decide)).1]
      refine B283_59 ⟨fun z => absurd z (by rw [show (6 : Int32) = nI 6 from rfl, i_le' _ _ (by omega) (by omega)]; omega), fun _ => ?_⟩
      rw [show (6 : Int32) * nI i + nI k = nI (6 * i + k) from p96, nI_clamp (show k < 2147483648 by omega), nI_clamp (show 6 * i + k < 2147483648 by omega), nI_1, src, h.2.1.1.2.2.2 k hk, bM0]
      refine ⟨v1, v2, ih _ ⟨ft.I (by simp), fun j => ?_⟩⟩
      by_cases q : j = 6 * i + k
      · rw [q, sI_at, if_pos (by omega), Nat.add_sub_cancel_left]
      · rw [sI_of _ _ (by omega), g j]; by_cases u : 6 * i ≤ j ∧ j < 6 * i + k
        · rw [if_pos u, if_pos (by omega)]
        · rw [if_neg u, if_neg (by omega)]
  · intro k t hk ⟨ft, g⟩ ih
    have v1 := vp_in_nI (show k < 96 from hk) (by decide)
    have v2 := vp_in_nI (show 96 * i + k < 288 by omega) (by decide)
    have src : t.1 140 = σ.1 140 := by rw [(ft 140 (by decide)).1, (f0 140 (by decide)).1]
    refine B283_28 ⟨fun z => absurd z (by rw [show (96 : Int32) = nI 96 from rfl, i_le' _ _ (by omega) (by omega)]; omega), fun _ => ?_⟩
    rw [show (96 : Int32) * nI i + nI k = nI (96 * i + k) from p96, nI_clamp (show k < 2147483648 by omega), nI_clamp (show 96 * i + k < 2147483648 by omega), nI_1, src]
    refine ⟨v1, v2, ih _ ⟨ft.I (by simp), fun j => ?_⟩⟩
    by_cases q : j = 96 * i + k
    · rw [q, sI_at, if_pos (by omega), Nat.add_sub_cancel_left]
    · rw [sI_of _ _ (by omega), g j]; by_cases u : 96 * i ≤ j ∧ j < 96 * i + k
      · rw [if_pos u, if_pos (by omega)]
      · rw [if_neg u, if_neg (by omega)]
end rboxes
