/-! CONTRACTS: the reference's line of what is told -/
def rTold0 (tk : Nat → Tk) (S : Rds) (j : Nat) : Except Fa (Rds × Nat) :=
  andT (rCs tk S (j + 1)) fun a => andT (rW tk 0x6F766572 a.2) fun j1 => andT (rCs tk S j1) fun c => .ok (addT S a.1 c.1 (tk j1).2.1, c.2)
theorem rTold_0 {tk : Nat → Tk} {S : Rds} {j : Nat} (h : S.t < 20) : rTold tk S j = andT (rTold0 tk S j) fun x => andT (rG tk 59 x.2) fun j' => .ok (x.1, j') := by
  unfold rTold rTold0
  rw [if_neg (by omega)]
  cases h1 : rCs tk S (j + 1) with
  | error e => rfl
  | ok a =>
    rw [andT_ok rfl, andT_ok rfl]
    cases h2 : rW tk 0x6F766572 a.2 with
    | error e => rfl
    | ok c =>
      rw [andT_ok rfl, andT_ok rfl]
      cases h3 : rCs tk S c with
      | error e => rfl
      | ok g => rfl
section rtl
variable {Θ : Th} {d : Nat} {σ : Mem} {Q : Po} {b : Nat → Nat} {n : Nat} {law : Bool} {S : Rds}
/-- a write behind what is told -/
theorem RdR_t {l : Nat} {x : Int32} (hl : l = 134 ∨ l = 135 ∨ l = 136) (hS : RdR S σ) : RdR S (sI σ l S.t x) := by
  obtain ⟨⟨a1, a2⟩, ⟨b1, b2, b3⟩, c1, c2⟩ := hS
  have ox : ∀ y, y ≠ l → (sI σ l S.t x).1 y = σ.1 y := fun y hy => sI_ne hy
  refine ⟨⟨by rw [ox 124 (by omega)]; exact a1, fun i hi => ?_⟩, ⟨by rw [ox 124 (by omega)]; exact b1, fun i hi => ?_, fun i k hi hk => ?_⟩, by rw [ox 124 (by omega)]; exact c1, fun i hi => ?_⟩
  · rw [ox 128 (by omega), ox 137 (by omega)]; exact a2 i hi
  · rw [ox 130 (by omega), ox 131 (by omega), ox 132 (by omega), ox 133 (by omega)]; exact b2 i hi
  · rw [ox 129 (by omega)]; exact b3 i k hi hk
  · rw [sI_of _ _ (by omega), sI_of _ _ (by omega), sI_of _ _ (by omega)]; exact c2 i hi
theorem frN_w {σ' : Mem} {l k : Nat} {x : Int32} (hl : 126 ≤ l ∧ l ≤ 138) (h : FrN σ σ') : FrN σ (sI σ' l k x) := by
  refine ⟨h.1.I ?_, fun y a c e f => ?_, ?_, ?_, h.2.2.2.2.1, h.2.2.2.2.2⟩
  · have : l = 126 ∨ l = 127 ∨ l = 128 ∨ l = 129 ∨ l = 130 ∨ l = 131 ∨ l = 132 ∨ l = 133 ∨ l = 134 ∨ l = 135 ∨ l = 136 ∨ l = 137 ∨ l = 138 := by omega
    unfold lsN; simp only [List.mem_cons]; omega
  · rw [sI_of _ _ (by omega)]; exact h.2.1 y a c e f
  · rw [sI_of _ _ (by omega)]; exact h.2.2.1
  · rw [sI_of _ _ (by omega)]; exact h.2.2.2.1
theorem TkR_w {j l k : Nat} {x : Int32} (hl : 126 ≤ l) (h : TkR b n law j σ) : TkR b n law j (sI σ l k x) :=
  TkR_wr h (fun y _ => sI_of _ _ (by omega)) rfl (sI_ne (by omega))
theorem FaR_w {e : Fa} {l k : Nat} {x : Int32} (hl : 126 ≤ l) (h : FaR e σ) : FaR e (sI σ l k x) :=
  ⟨⟨by rw [sI_of _ _ (by omega)]; exact h.1.1, by rw [sI_of _ _ (by omega)]; exact h.1.2⟩, h.2⟩
theorem ok_rCs {tk : Nat → Tk} {j : Nat} {a : Nat × Nat} (h : rCs tk S j = .ok a) : a.1 < S.c := by
  unfold rCs at h
  split at h
  · split at h
    · rename_i x hx; cases h; exact (fdN_lt hx).1
    · cases h
  · cases h
theorem c189 {j : Nat} (hn : n ≤ 1300) (hb : ∀ i, b i < 256) (h : TkR b n law j σ) (h4 : (tok b n law j).1 ≠ 4) (hS : RdR S σ) (hk : RdsOk S) (ht : S.t < 20)
    (KE : ∀ e σ', rTold0 (tok b n law) S j = .error e → FrN σ σ' → FaR e σ' → Q none σ')
    (KO : ∀ S' j' σ', rTold0 (tok b n law) S j = .ok (S', j') → j < j' → RdsOk S' → FrN σ σ' → TkR b n law j' σ' → RdR S' σ' → Q none σ') : Cm Θ (d + 3) 189 [.ref 124] σ Q := by
  have vm : vp_in (nI S.t) 20 := vp_in_nI ht (by decide)
  refine K189 (B189_0 ?_)
  refine c175n hn hb h h4 fun s1 f1 t1 => ⟨rfl, ?_⟩
  have hS1 := RdR_fr hS f1
  try dsimp only
  rw [hS1.2.2.1, nI_clamp (by omega)]
  refine c185c (d := d) hn hb t1 hS1 hk (fun e s2 x he f2 t2 => ⟨_, rfl, vm, fun _ => ?_, fun z => absurd z (FaR_n (FaR_w (by omega) t2)).2⟩) fun a he ha hk1 => ⟨_, rfl, vm, fun z => absurd (TkR_0 (TkR_w (by omega) t1)).2 z, fun _ => ?_⟩
  · have t3 : FaR e (sI s2 134 S.t x) := FaR_w (by omega) t2
    have hS2 := RdR_t (l := 134) (x := x) (by omega) (RdR_fr hS1 f2)
    refine c180f (d := d + 1) t3 ⟨rfl, ?_⟩
    try dsimp only
    rw [hS2.2.2.1, nI_clamp (by omega)]
    refine c185f (d := d + 1) t3 ⟨_, rfl, vm, fun z => absurd z (FaR_n (FaR_w (by omega) t3)).1, fun _ => KE e _ ?_ (frN_w (by omega) (frN_w (by omega) (frN_T (frT_tr f1 f2)))) (FaR_w (by omega) t3)⟩
    unfold rTold0; rw [andT_er he]
  · have t2 : TkR b n law (j + 1) (sI s1 134 S.t (nI a)) := TkR_w (by omega) t1
    have hS2 := RdR_t (l := 134) (x := nI a) (by omega) hS1
    have F2 : FrN σ (sI s1 134 S.t (nI a)) := frN_w (by omega) (frN_T f1)
    refine c175n hn hb t2 (by omega) fun s3 f3 t3 => ⟨rfl, ?_⟩
    have hS3 := RdR_fr hS2 f3
    have F3 := frN_tr F2 (frN_T f3)
    try dsimp only
    rw [w_over]
    refine c180 (d := d) hn hb t3 (by decide) (fun e s4 he4 f4 t4 => ⟨rfl, ?_⟩) fun s4 he4 f4 t4 => ⟨rfl, ?_⟩
    · have hS4 := RdR_fr hS3 f4
      try dsimp only
      rw [hS4.2.2.1, nI_clamp (by omega)]
      refine c185f (d := d + 1) t4 ⟨_, rfl, vm, fun z => absurd z (FaR_n (FaR_w (by omega) t4)).1, fun _ => KE e _ ?_ (frN_w (by omega) (frN_tr F3 (frN_T f4))) (FaR_w (by omega) t4)⟩
      unfold rTold0; rw [andT_ok he, andT_er he4]
    have hS4 := RdR_fr hS3 f4
    have F4 := frN_tr F3 (frN_T f4)
    try dsimp only
    rw [hS4.2.2.1, nI_clamp (by omega)]
    refine c185c (d := d) hn hb t4 hS4 hk (fun e s5 x he5 f5 t5 => ⟨_, rfl, vm, fun z => absurd z (FaR_n (FaR_w (by omega) t5)).1, fun _ => KE e _ ?_ (frN_w (by omega) (frN_tr F4 (frN_T f5))) (FaR_w (by omega) t5)⟩) fun u he5 hu hk5 => ⟨_, rfl, vm, fun _ => ?_, fun z => absurd (TkR_0 (TkR_w (by omega) t4)).1 z⟩
    · unfold rTold0; rw [andT_ok he, andT_ok he4, andT_er he5]
    obtain ⟨p, hp⟩ : ∃ p, p = (tok b n law (j + 1 + 1 + 1)).2.1 := ⟨_, rfl⟩
    have h7 : s4.1 124 7 = nI p := by rw [hp]; exact (TkR_st t4).2.1
    have w4 : s4.1 134 S.t = nI a := by rw [(f4.1 134 (by decide)).1, (f3.1 134 (by decide)).1, sI_at]
    obtain ⟨u1, hu1⟩ : ∃ v, v = sI s4 135 S.t (nI u) := ⟨_, rfl⟩
    obtain ⟨u2, hu2⟩ : ∃ v, v = sI u1 136 S.t (nI p) := ⟨_, rfl⟩
    obtain ⟨u3, hu3⟩ : ∃ v, v = sI u2 124 26 (nI (S.t + 1)) := ⟨_, rfl⟩
    have t5 : TkR b n law (j + 1 + 1 + 1) u2 := by rw [hu2, hu1]; exact TkR_w (by omega) (TkR_w (by omega) t4)
    have hS5 : RdR S u2 := by rw [hu2, hu1]; exact RdR_t (by omega) (RdR_t (by omega) hS4)
    have F5 : FrN σ u2 := by rw [hu2, hu1]; exact frN_w (by omega) (frN_w (by omega) F4)
    have e1 : u1.1 124 26 = nI S.t := by rw [hu1, sI_of _ _ (by omega)]; exact hS4.2.2.1
    have e7 : u1.1 124 7 = nI p := by rw [hu1, sI_of _ _ (by omega)]; exact h7
    rw [← hu1, e1, nI_clamp (by omega), e7, ← hu2, hS5.2.2.1, nI_1, ← hu3]
    have t6 : TkR b n law (j + 1 + 1 + 1) u3 := TkR_wr t5 (fun y hy => by rw [hu3, sI_of _ _ (by omega)]) (by rw [hu3]; rfl) (by rw [hu3]; exact sI_ne (by decide))
    have F6 : FrN σ u3 := by
      refine ⟨?_, fun y y1 y2 y3 y4 => ?_, ?_, ?_, ?_, ?_⟩
      · rw [hu3]; exact F5.1.I (by simp [lsN])
      · rw [hu3, sI_of _ _ (by omega)]; exact F5.2.1 y y1 y2 y3 y4
      · rw [hu3, sI_of _ _ (by omega)]; exact F5.2.2.1
      · rw [hu3, sI_of _ _ (by omega)]; exact F5.2.2.2.1
      · rw [hu3]; exact F5.2.2.2.2.1
      · rw [hu3]; exact F5.2.2.2.2.2
    have w5 : u3.1 134 S.t = nI a ∧ u3.1 135 S.t = nI u ∧ u3.1 136 S.t = nI p := by
      rw [hu3, sI_of _ _ (by omega), sI_of _ _ (by omega), sI_of _ _ (by omega), hu2, sI_of _ _ (by omega), sI_of _ _ (by omega), sI_at, hu1, sI_of _ _ (by omega), sI_at]
      exact ⟨w4, rfl, rfl⟩
    have ox : ∀ y, y ≠ 124 → u3.1 y = u2.1 y := fun y hy => by rw [hu3]; exact sI_ne hy
    have oy : ∀ y, y ≠ 26 → u3.1 124 y = u2.1 124 y := fun y hy => by rw [hu3, sI_of _ _ (by omega)]
    have oL : u3.2 = u2.2 := by rw [hu3]; rfl
    have hS6 : RdR (addT S a u p) u3 := by
      obtain ⟨⟨a1, a2⟩, ⟨b1, b2, b3⟩, c1, c2⟩ := hS5
      refine ⟨⟨by rw [oy 24 (by decide)]; exact a1, by rw [oL, ox 128 (by decide), ox 137 (by decide)]; exact a2⟩, ⟨by rw [oy 25 (by decide)]; exact b1, by rw [oL, ox 130 (by decide), ox 131 (by decide), ox 132 (by decide), ox 133 (by decide)]; exact b2, by rw [ox 129 (by decide)]; exact b3⟩, by rw [hu3, sI_at]; rfl, fun i hi => ?_⟩
      have hi : i < S.t + 1 := hi
      show u3.1 134 i = nI (upN S.ov S.t a i) ∧ u3.1 135 i = nI (upN S.un S.t u i) ∧ u3.1 136 i = nI (upN S.tp S.t p i)
      by_cases z : i = S.t
      · rw [z, upN_at, upN_at, upN_at]; exact w5
      · rw [upN_ne z, upN_ne z, upN_ne z, ox 134 (by decide), ox 135 (by decide), ox 136 (by decide)]; exact c2 i (by omega)
    refine ⟨vm, c175n hn hb t6 (by omega) fun s7 f7 t7 => ⟨rfl, KO (addT S a u p) (j + 1 + 1 + 1 + 1) s7 ?_ (by omega) (ok_addT hk ht ha hu) (frN_tr F6 (frN_T f7)) t7 (RdR_fr hS6 f7)⟩⟩
    unfold rTold0; rw [andT_ok he, andT_ok he4, andT_ok he5, hp]
end rtl
