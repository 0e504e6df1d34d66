/-! THE CALLS: mercy, step, ends, first -/
noncomputable def mcP (B : Bk) (m : Nat) : Nat := prC (bN B) (fun i j => !false || decide (i = j)) (gp (oV B (fun j => bCt B j || decide (j = m)) (bT B)) (bG B))
noncomputable def mcS (B : Bk) : Nat → Int × Nat
  | 0 => (-1, 0)
  | n + 1 => if bCt B n = true then mcS B n else if (mcS B n).1 < 0 ∨ mcP B n < (mcS B n).2 then ((n : Int), mcP B n) else mcS B n
noncomputable def qMc (B : Bk) (x : Int32) : Int32 := if (mcS B (bM B)).1 < 0 then -1 else if x = 0 then iI (mcS B (bM B)).1 else if x = 1 then nI (mcS B (bM B)).2 else -1
theorem prC_b {n : Nat} {e : Nat → Nat → Bool} {f : Nat → Nat → Nat} (h : n ≤ 16) : prC n e f ≤ 256 :=
  Nat.le_trans (sN_b n (b := 16) fun i hi => Nat.le_trans (cN_max _ _) (by omega)) (Nat.mul_le_mul h (Nat.le_refl 16))
theorem mcS_b (B : Bk) (h16 : bN B ≤ 16) : ∀ n, -1 ≤ (mcS B n).1 ∧ (mcS B n).1 < n ∧ (mcS B n).2 ≤ 256
  | 0 => ⟨Int.le_refl _, show (-1 : Int) < ((0 : Nat) : Int) by decide, Nat.zero_le _⟩
  | n + 1 => by
    obtain ⟨h1, h2, h3⟩ := mcS_b B h16 n
    unfold mcS
    have : mcP B n ≤ 256 := prC_b h16
    split
    · exact ⟨h1, by omega, h3⟩
    · split
      · exact ⟨by show (-1 : Int) ≤ (n : Int); omega, by show (n : Int) < ((n + 1 : Nat) : Int); omega, this⟩
      · exact ⟨h1, by omega, h3⟩
section ans9
variable {Θ : Th} {d : Nat} {σ : Mem} {Q : Po} {s : St}
theorem iI_neg1 {z : Int} (h : -1 ≤ z) (h' : z < 1000) : (iI z < 0 ↔ z < 0) ∧ (0 ≤ iI z ↔ 0 ≤ z) := by
  refine ⟨by rw [i_lt, iI_toInt (by omega) (by omega)]; exact Iff.rfl, by rw [i_le, iI_toInt (by omega) (by omega)]; exact Iff.rfl⟩
theorem k143 {x1 : Int32} (h : RC s σ) (ok : OkS s) (K : ∀ σ', CC σ σ' → RC s σ' → Q (some (.int (qMc s.B x1))) σ') : Cm Θ (d + 4) 143 [.ref 0, .int x1] σ Q := by
  obtain ⟨r, o, hB, kn⟩ := id h
  have h16 := bk16 ok
  have hkB := ok.2.1.1
  have hm := bm6 hkB
  obtain ⟨t0, t1, t2⟩ := x012 (x := x1)
  refine K143 (B143_0 ?_)
  have lp := loopS (α := Mem) (I := fun _ t => CC σ t ∧ RB s r o t ∧ Kn s.B t) (P := fun i t => G Θ (d + 4) 143 7 [some (.ref 0), some (.int x1), some (.int (iI (mcS s.B i).1)), some (.int (if (mcS s.B i).1 < 0 then -1 else nI (mcS s.B i).2)), some (.int (nI i)), none] [] t Q) (bM s.B) ?_ ?_ σ ⟨cC_rfl, hB, kn⟩
  · exact lp
  · intro t ⟨c1, c2, c3⟩
    obtain ⟨r1, r2, r3, r4⟩ := rB_r c2
    have hn := c2.2.2.1.1.2.1.1
    have fin := K t c1 ⟨r, o, c2, c3⟩
    unfold qMc at fin
    obtain ⟨m1, m2, m3⟩ := mcS_b s.B h16 (bM s.B)
    refine B143_7 ?_
    rw [r1, hn]
    refine ⟨r2, r3, fun _ => ⟨fun z => ⟨fun y => ?_, fun y => ?_⟩, fun z => ?_⟩, fun q => absurd (nI_le (Nat.le_refl _) (by omega)) q⟩
    · rw [if_neg z, if_neg y] at fin
      split at fin <;> exact fin
    · rw [if_neg z, if_pos y] at fin
      split at fin
      · rename_i w; rw [if_pos w]; exact fin
      · rename_i w; rw [if_neg w]; exact fin
    · rw [if_pos z] at fin
      split at fin
      · rename_i w; rw [show (mcS s.B (bM s.B)).1 = -1 by omega]; exact fin
      · exact fin
  · intro i t hi ⟨c1, c2, c3⟩ ih
    obtain ⟨r1, r2, r3, r4⟩ := rB_r c2
    have hB' := c2.2.2.1.1
    have hn := hB'.2.1.1
    obtain ⟨m1, m2, m3⟩ := mcS_b s.B h16 i
    obtain ⟨n1, n2⟩ := iI_neg1 m1 (by omega)
    refine B143_7 ?_
    rw [r1, hn, nI_1]
    refine ⟨r2, r3, fun q => absurd q (nI_ge hi (by omega)), fun _ => ⟨r2, r3, ro (c14 r3 (by omega)) ?_⟩⟩
    have es : mcS s.B (i + 1) = if bCt s.B i = true then mcS s.B i else if (mcS s.B i).1 < 0 ∨ mcP s.B i < (mcS s.B i).2 then ((i : Int), mcP s.B i) else mcS s.B i := rfl
    have ct : bt (t.1 r 3) i = bCt s.B i := by
      rw [hB'.2.1.2.2.2]
      rw [bt_sX _ (show i < 32 by omega), decide_eq_true (show i < 16 by omega), Bool.true_and]
    rw [ct]
    refine ⟨fun q => ?_, fun q => ?_⟩
    · rw [b01_n] at q
      have := ih t ⟨c1, c2, c3⟩
      rw [es, if_pos q] at this; exact this
    · rw [b01_0] at q
      try dsimp only
      rw [r1, hB'.2.1.2.2.2, sX_add1 _ (by omega)]
      refine ⟨r2, r3, r2, r3, ?_⟩
      refine (c76 (d := d + 1) (Or.inl rfl) hB' hkB).mono fun s1 ⟨f1, o1⟩ => ?_
      have hB1 := BkC_f2 hB' f1 fun x x1 x2 z => by simp at z; omega
      rw [(f1 0 (by decide)).2.2, r1]
      refine ⟨r2, r3, (c77 (d := d + 2) o1 hB1 hkB).mono fun v s2 ⟨f2, o2, _⟩ => ?_⟩
      have f12 : Fr [7, 8] t s2 := f1.tr f2
      have hB2 := RB_fr c2 f12 (f12 0 (by decide)).2.2 fun x hx => by simp at hx; omega
      have kn2 : Kn s.B s2 := Kn_fr c3 f12 (by rw [(f12 0 (by decide)).1]; exact ⟨rfl, rfl⟩) (by rw [(f12 110 (by decide)).1]; exact ⟨rfl, rfl, rfl⟩) fun x hx => by simp at hx; omega
      have rd2 := Rd_of hB2.2.2.1.1 hkB
      rw [(rB_r hB2).1]
      refine ⟨r2, r3, ro (c83 (d := d + 1) (yr := false) o2 rd2) ?_⟩
      have ih := ih s2 ⟨cC_tr c1 (cC_fr f12 fun x hx => by simp at hx; omega), hB2, kn2⟩
      rw [es, if_neg (by rw [q]; decide)] at ih
      have pe : prC (bN s.B) (fun i j => !false || decide (bY s.B i = bY s.B j)) (gp (oV s.B (fun j => bCt s.B j || decide (j = i)) (bT s.B)) (bG s.B)) = mcP s.B i := rfl
      rw [pe]
      have pb : mcP s.B i ≤ 256 := prC_b h16
      rw [n1]
      refine ⟨fun w => ?_, fun w => ?_⟩
      · rw [if_pos (Or.inl w), if_neg (show ¬ ((i : Nat) : Int) < 0 by omega)] at ih; exact ih
      · rw [if_neg w]
        rw [(mv_le (a := (mcS s.B i).2) (b := mcP s.B i) (by omega) (by omega)).1]
        refine ⟨fun u => ?_, fun u => ?_⟩
        · rw [if_neg (show ¬ ((mcS s.B i).1 < 0 ∨ mcP s.B i < (mcS s.B i).2) by omega), if_neg w] at ih; exact ih
        · rw [if_pos (show ((mcS s.B i).1 < 0 ∨ mcP s.B i < (mcS s.B i).2) by omega), if_neg (show ¬ ((i : Nat) : Int) < 0 by omega)] at ih; exact ih
theorem k250 {x1 : Int32} (h : RR s σ) (ok : OkS s) (K : ∀ σ', CR σ σ' → RR s σ' → Q (some (.int (qMc s.B x1))) σ') : Cm Θ (d + 4) 250 [.ref 124, .int x1] σ Q := by
  have h16 := bk16 ok
  have hkB := ok.2.1.1
  have hm := bm6 hkB
  have l0 : x1 < 0 ↔ x1.toInt < 0 := i_lt
  have l1 : x1 ≤ 1 ↔ x1.toInt ≤ 1 := i_le
  obtain ⟨t0, t1, t2⟩ := x012 (x := x1)
  have no : (x1.toInt < 0 ∨ 1 < x1.toInt) → Q (some (.int (-1))) σ := fun q => by
    have fin := K σ cR_rfl h
    unfold qMc at fin
    rw [if_neg (show ¬ x1 = 0 from fun w => by have := t0.mpr w; omega), if_neg (show ¬ x1 = 1 from fun w => by have := t1.mpr w; omega)] at fin
    split at fin <;> exact fin
  refine K250 (B250_0 ?_)
  rw [l0, l1]
  refine ⟨fun z => no (Or.inl z), fun z => ⟨fun y => ?_, fun y => no (Or.inr (by omega))⟩⟩
  have lp := loopS (α := Mem) (I := fun _ t => QR σ t ∧ RR s t) (P := fun i t => G Θ (d + 4) 250 18 [some (.ref 124), some (.int x1), some (.int (iI (mcS s.B i).1)), some (.int (nI (mcS s.B i).2)), some (.int (nI i)), none] [] t Q) (bM s.B) ?_ ?_ σ ⟨qR_rfl, h⟩
  · exact lp
  · intro t ⟨c1, c2⟩
    have fin := K t c1.1 c2
    unfold qMc at fin
    obtain ⟨m1, m2, m3⟩ := mcS_b s.B h16 (bM s.B)
    obtain ⟨n1, n2⟩ := iI_neg1 m1 (by omega)
    refine B250_18 ?_
    rw [c2.2.1.1.1, n2]
    refine ⟨fun _ => ⟨fun w => ⟨fun u => ?_, fun u => ?_⟩, fun w => ?_⟩, fun q => absurd (nI_le (Nat.le_refl _) (by omega)) q⟩
    · rw [if_neg (by omega), if_neg u, if_pos (t1.mp (by have : ¬ x1.toInt = 0 := fun q => u (t0.mp q); omega))] at fin; exact fin
    · rw [if_neg (by omega), if_pos u] at fin; exact fin
    · rw [if_pos (by omega)] at fin; exact fin
  · intro i t hi ⟨c1, c2⟩ ih
    obtain ⟨m1, m2, m3⟩ := mcS_b s.B h16 i
    obtain ⟨n1, n2⟩ := iI_neg1 m1 (by omega)
    have es : mcS s.B (i + 1) = if bCt s.B i = true then mcS s.B i else if (mcS s.B i).1 < 0 ∨ mcP s.B i < (mcS s.B i).2 then ((i : Int), mcP s.B i) else mcS s.B i := rfl
    refine B250_18 ?_
    rw [c2.2.1.1.1, nI_1, nI_clamp (by omega), c2.2.1.1.2.2.2 i (by omega)]
    refine ⟨fun q => absurd q (nI_ge hi (by omega)), fun _ => ⟨vp_in_nI (by omega) (by decide), fun q => ro (c196 c2.2.1 hkB) ?_, fun q => ?_⟩⟩
    · rw [b01_0] at q
      rw [sX_add1 _ (by omega)]
      refine Cm.mono (c197 (d := d + 2) (told := true) c2.2.1 hkB) fun v s1 ⟨e, f1, o1⟩ => ?_
      have qq := qR_fr f1 fun x hx => by simp at hx; omega
      have hR1 := RR_Q c2 qq.2
      refine ⟨e, c206 (d := d + 1) hR1.2.1 hkB o1 ⟨_, rfl, ?_⟩⟩
      have ih := ih s1 ⟨qR_tr c1 qq, hR1⟩
      rw [es, if_neg (by rw [q]; decide)] at ih
      have pb : mcP s.B i ≤ 256 := prC_b h16
      rw [pr_no]
      have pe : prC (bN s.B) (fun i j => !false || decide (i = j)) (gp (oV s.B (fun j => bCt s.B j || decide (j = i)) (if true = true then bT s.B else 0)) (bG s.B)) = mcP s.B i := rfl
      try dsimp only
      rw [pe, n1, (mv_le (a := mcP s.B i) (b := (mcS s.B i).2) (by omega) (by omega)).2.1]
      refine ⟨fun w => ?_, fun w => ⟨fun u => ?_, fun u => ?_⟩⟩
      · rw [if_pos (Or.inl w)] at ih; exact ih
      · rw [if_pos (Or.inr u)] at ih; exact ih
      · rw [if_neg (show ¬ ((mcS s.B i).1 < 0 ∨ mcP s.B i < (mcS s.B i).2) by omega)] at ih; exact ih
    · rw [b01_n] at q
      have := ih t ⟨c1, c2⟩
      rw [es, if_pos q] at this; exact this
/-- step(m, s) -/
def stN (s : St) (m v : Nat) : St := (s.1, (s.B, s.lv, s.n0, s.nm, upN s.nw m v), s.2.2)
noncomputable def stSt (s : St) (x1 x2 : Int32) : St := if stB s.B x1 x2 = true then stN s x1.toNatClampNeg x2.toNatClampNeg else s
theorem ok_stN {m v : Nat} (ok : OkS s) (hv : v ≤ bTp s.B m) : OkS (stN s m v) :=
  ⟨ok.1, ⟨ok.2.1.1, ok.2.1.2.1, ok.2.1.2.2.1, fun j hj => by
    show upN s.nw m v j ≤ _
    by_cases q : j = m
    · rw [q, upN_at]; exact hv
    · rw [upN_ne q]; exact ok.2.1.2.2.2 j hj⟩, ok.2.2⟩
theorem k144 {x1 x2 : Int32} (h : RC s σ) (ok : OkS s) (K : ∀ σ', CC σ σ' → OkS (stSt s x1 x2) → RC (stSt s x1 x2) σ' → Q (some (.int (b01 (stB s.B x1 x2)))) σ') : Cm Θ (d + 2) 144 [.ref 0, .int x1, .int x2] σ Q := by
  obtain ⟨r, o, hB, kn⟩ := id h
  obtain ⟨r1, r2, r3, r4⟩ := rB_r hB
  have hm := bm6 ok.2.1.1
  have hkB := ok.2.1.1
  unfold stSt at K
  refine K144 (B144_0 ?_)
  rw [r1]
  refine ⟨r2, r3, c13' (d := d) hB.2.2.1.1 ok ⟨_, rfl, fun z => ?_, fun z => ?_⟩⟩
  · rw [b01_n] at z
    obtain ⟨m, v, hm', hv, e1, e2, e2'⟩ := stB_ex hm z
    have ht := (hkB.2.2.1 m hm').2
    rw [if_pos z, z, e1, e2', nI_clamp (by omega), nI_clamp (by omega)] at K
    rw [r1, e1, e2']
    refine ⟨r2, r3, Cm.mono (c16 (c := 16) r3 (by omega) (by omega)) fun v' s1 ⟨e, e'⟩ => ⟨e, ?_⟩⟩
    rw [e']
    have fr : Fr [r + 7] σ (sI σ (r + 7) (6 * 16 + m) (nI v)) := Fr.rfl.I (by simp)
    obtain ⟨h0, hT, ⟨bk, nw⟩, lw, ac, xc, z7⟩ := hB
    have hlv := hkB.2.1.2
    have ho := lw.1
    refine K _ (cC_fr fr fun x hx => by simp at hx; omega) (ok_stN ok hv) ⟨r, o, ⟨h0, TC_fr hT fr (by simp) (by simp), ⟨?_, ?_⟩, LwS_fr lw fr fun x x1 x2 q => by simp at q <;> omega, AcC_fr ac fr fun x x1 x2 q => by simp at q <;> omega, XC_fr xc fr fun x x1 x2 q => by simp at q <;> omega, by rw [(fr 113 (by simp <;> omega)).1]; exact z7⟩, Kn_fr kn fr (by rw [(fr 0 (by simp <;> omega)).1]; exact ⟨rfl, rfl⟩) (by rw [(fr 110 (by simp <;> omega)).1]; exact ⟨rfl, rfl, rfl⟩) fun x hx => by simp at hx; omega⟩
    · obtain ⟨b0, ⟨a1, a2, a3, a4⟩, ⟨b1, b2, b3, b4, b5, b6⟩, c1, c2, c3⟩ := bk
      have e : ∀ x, x ≠ r + 7 → (sI σ (r + 7) (6 * 16 + m) (nI v)).1 x = σ.1 x := fun x hx => sI_ne hx
      show BkC r s.lv s.B _
      unfold BkC rowI
      rw [e r (by omega), e (r + 2) (by omega), e (r + 3) (by omega), e (r + 4) (by omega), e (r + 5) (by omega), e (r + 6) (by omega), e (r + 8) (by omega), e (r + 9) (by omega)]
      exact ⟨b0, ⟨a1, a2, a3, a4⟩, ⟨b1, b2, b3, b4, b5, fun c m' hc hm'' => by rw [sI_of _ _ (by omega)]; exact b6 c m' hc hm''⟩, c1, c2, c3⟩
    · intro j hj
      show (sI σ (r + 7) (6 * 16 + m) (nI v)).1 (r + 7) (6 * 16 + j) = nI (upN s.nw m v j)
      by_cases q : j = m
      · rw [q, sI_at, upN_at]
      · rw [sI_of _ _ (by omega), upN_ne q]; exact nw j hj
  · rw [b01_0] at z
    rw [z] at K; exact K σ cC_rfl ok h
theorem k271 {x1 x2 : Int32} (h : RR s σ) (ok : OkS s) (K : ∀ σ', CR σ σ' → RR (stSt s x1 x2) σ' → Q (some (.int (b01 (stB s.B x1 x2)))) σ') : Cm Θ (d + 1) 271 [.ref 124, .int x1, .int x2] σ Q := by
  have hm := bm6 ok.2.1.1
  have hkB := ok.2.1.1
  have l0 : x2 < 0 ↔ x2.toInt < 0 := i_lt
  unfold stSt at K
  have bad : stB s.B x1 x2 = false → Q (some (.int 0)) σ := fun q => by rw [q] at K; exact K σ cR_rfl h
  refine K271 (B271_0 (c201 h.2.1.1.1 (by omega) ⟨_, rfl, fun z => bad (by rw [b01_0] at z; unfold stB; rw [z]; rfl), fun z => ?_⟩))
  rw [b01_n] at z
  obtain ⟨m, hm', e1⟩ := isN_ex (dP_iff.mp z) (by omega)
  have ht := (hkB.2.2.1 m hm').2
  have vm : vp_in (nI m) 6 := vp_in_nI (by omega) (by decide)
  have est : stB s.B x1 x2 = decide (0 ≤ x2.toInt ∧ x2.toInt ≤ (bTp s.B m : Nat)) := by
    unfold stB; rw [z, e1, nI_clamp (by omega), Bool.true_and]
  have etp : x2 ≤ σ.1 139 m ↔ x2.toInt ≤ (bTp s.B m : Nat) := by rw [h.2.1.1.2.2.1 m hm', i_le, nI_int (by omega)]
  have em : x1.toNatClampNeg = m := by rw [e1]; exact nI_clamp (by omega)
  have v1 : vp_in x1 6 := by rw [e1]; exact vm
  rw [l0, em, etp]
  refine ⟨fun w => bad (by rw [est]; exact decide_eq_false (by omega)), fun w => ⟨v1, fun y => ⟨v1, ?_⟩, fun y => bad (by rw [est]; exact decide_eq_false (by omega))⟩⟩
  have et : stB s.B x1 x2 = true := by rw [est]; exact decide_eq_true ⟨by omega, y⟩
  obtain ⟨v, ev, ev', -, ev''⟩ := clamp_ex (x := x2) (by omega)
  rw [if_pos et, et, em, ev''] at K
  have fr : Fr [173] σ (sI σ 173 m x2) := Fr.rfl.I (by simp)
  obtain ⟨tt, bk, nw, lw, ac, xc⟩ := h
  have e : ∀ j, j ≠ 173 → (sI σ 173 m x2).1 j = σ.1 j := fun j hj => sI_ne hj
  refine K _ (cR_fr fr fun x hx => by simp at hx; omega) ⟨by unfold TR; rw [e 124 (by decide), e 125 (by decide)]; exact tt, BkR_eq (fun j a b => ⟨e j (by omega), rfl⟩) (by rw [e 124 (by decide)]) (by rw [e 124 (by decide)]) (by rw [e 124 (by decide)]) bk, fun j hj => ?_, LwF_eq (fun j a b => e j (by omega)) (by rw [e 124 (by decide)]) lw, AcR_eq (by rw [e 124 (by decide)]) (by rw [e 124 (by decide)]) (e 174 (by decide)) (e 175 (by decide)) (e 176 (by decide)) ac, XR_eq (fun j a b => e j (by omega)) xc⟩
  show (sI σ 173 m x2).1 173 j = nI (upN s.nw m v j)
  by_cases q : j = m
  · rw [q, sI_at, upN_at]; exact ev'
  · rw [sI_of _ _ (by omega), upN_ne q]; exact nw j hj
end ans9
