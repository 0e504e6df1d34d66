/-! CONTRACTS: the reference reads a laws' text: lines, all of it -/
def LwR (S : Lw) (σ : Mem) : Prop := (σ.1 124 68 = nI S.P.length ∧ σ.1 124 69 = nI S.k ∧ σ.1 124 71 = nI S.u) ∧ rwR S.P σ ∧ ∀ i, i < S.k → (σ.1 163 i = nI (S.bg i) ∧ σ.1 163 (i + 1) = nI (S.st i)) ∧ σ.1 164 i = nI (S.lo i) ∧ σ.1 165 i = nI (S.hi i)
def lsS : List Nat := [124, 161, 162, 163, 164, 165, 171]
def FrS (σ s : Mem) : Prop := Fr lsS σ s ∧ (∀ y, 9 ≤ y → y ≠ 68 → y ≠ 69 → y ≠ 71 → y ≠ 72 → y ≠ 73 → s.1 124 y = σ.1 124 y) ∧ s.1 124 1 = σ.1 124 1 ∧ (∀ y, y ≠ 9 → s.2.1 124 y = σ.2.1 124 y)
theorem frS_rfl {σ : Mem} : FrS σ σ := ⟨Fr.rfl, fun _ _ _ _ _ _ _ => rfl, rfl, fun _ _ => rfl⟩
theorem frS_tr {σ σ' σ'' : Mem} (h : FrS σ σ') (h' : FrS σ' σ'') : FrS σ σ'' := ⟨h.1.tr h'.1, fun y a c e f g i => (h'.2.1 y a c e f g i).trans (h.2.1 y a c e f g i), h'.2.2.1.trans h.2.2.1, fun y a => (h'.2.2.2 y a).trans (h.2.2.2 y a)⟩
theorem frS_E {σ s : Mem} (h : FrE σ s) : FrS σ s := ⟨h.1.mono (by intro x hx; simp at hx; rcases hx with z | z | z | z <;> (rw [z]; decide)), fun y a c _ f g i => h.2.1 y a c f g i, h.2.2.1, h.2.2.2⟩
theorem frS_T {σ s : Mem} (h : FrT σ s) : FrS σ s := frS_E (frE_T h)
theorem frS_w {σ s : Mem} {l k : Nat} {x : Int32} (hl : l = 163 ∨ l = 164 ∨ l = 165) (h : FrS σ s) : FrS σ (sI s l k x) :=
  ⟨h.1.I (by rcases hl with z | z | z <;> (rw [z]; decide)), fun y a c e f g i => by rw [sI_of _ _ (by omega)]; exact h.2.1 y a c e f g i, by rw [sI_of _ _ (by omega)]; exact h.2.2.1, h.2.2.2⟩
theorem frS_y {σ s : Mem} {k : Nat} {x : Int32} (hk : k = 68 ∨ k = 69 ∨ k = 71 ∨ k = 72 ∨ k = 73) (h : FrS σ s) : FrS σ (sI s 124 k x) :=
  ⟨h.1.I (by decide), fun y a c e f g i => by rw [sI_of _ _ (by omega)]; exact h.2.1 y a c e f g i, by rw [sI_of _ _ (by omega)]; exact h.2.2.1, h.2.2.2⟩
theorem MkR_S {mk : Nat} {nm : Nat → Nat} {σ s : Mem} (h : MkR mk nm σ) (f : FrS σ s) : MkR mk nm s :=
  ⟨by rw [f.2.1 37 (by omega) (by omega) (by omega) (by omega) (by omega) (by omega)]; exact h.1, h.2.1, by rw [(f.1 148 (by decide)).2.1]; exact h.2.2.1, h.2.2.2⟩
section rl4
variable {Θ : Th} {d : Nat} {Q : Po} {b : Nat → Nat} {n : Nat} {law : Bool} {mk : Nat} {nm : Nat → Nat}
theorem c262f {e : Fa} {σ : Mem} (t : FaR e σ) (K : Q none σ) : G Θ (d + 3 + 1) 262 191 [some (.ref 124), none] [] σ Q :=
  B262_191 ⟨fun z => absurd z (FaR_n t).1, fun _ => K⟩
/-- the rest of a line, with a fault standing -/
theorem c262h {e : Fa} {σ : Mem} {k : Nat} {x y z : Int32} {w : Int64} (hk : k < 8) (t : FaR e σ) (h69 : σ.1 124 69 = nI k) (K : ∀ s, FrS σ s → FaR e s → Q none s) :
    Cv Θ (d + 3) 180 [.ref 124, .long w] σ (fun σ6 => (vp_in (σ6.1 124 69) 8 ∧ Ci Θ (d + 3) 181 [.ref 124, .int (σ6.1 164 (σ6.1 124 69).toNatClampNeg), .int 240] σ6 (fun v8 σ8 => (vp_in (σ6.1 124 69) 8 ∧ ((¬ ((sI σ8 165 ((σ6.1 124 69).toNatClampNeg) v8).1 124 2) = 0 → G Θ (d + 3 + 1) 262 191 [some (.ref 124), none] [] (sI σ8 165 ((σ6.1 124 69).toNatClampNeg) v8) Q) ∧ (((sI σ8 165 ((σ6.1 124 69).toNatClampNeg) v8).1 124 2) = 0 → ((((sI σ8 165 ((σ6.1 124 69).toNatClampNeg) v8).1 124 6) = 59 → G Θ (d + 3 + 1) 262 191 [some (.ref 124), none] [] (sI σ8 165 ((σ6.1 124 69).toNatClampNeg) v8) Q) ∧ (¬ ((sI σ8 165 ((σ6.1 124 69).toNatClampNeg) v8).1 124 6) = 59 → Cv Θ (d + 3) 176 [.ref 124, .int 2] (sI σ8 165 ((σ6.1 124 69).toNatClampNeg) v8) (fun σ12 => G Θ (d + 3 + 1) 262 191 [some (.ref 124), none] [] σ12 Q))))))))) := by
  refine c180f (d := d + 2) t ⟨rfl, ?_⟩
  try dsimp only
  rw [h69]
  have vm := vp_in_nI hk (by decide)
  have t' : ∀ v, FaR e (sI σ 165 (nI k).toNatClampNeg v) := fun v => FaR_w (by omega) t
  exact ⟨vm, c181f (d := d + 2) t ⟨_, rfl, vm, fun _ => c262f (t' 0) (K _ (frS_w (by omega) frS_rfl) (t' 0)), fun z => absurd z (FaR_n (t' 0)).2⟩⟩
theorem c262 {σ : Mem} {j : Nat} {S : Lw} (hn : n ≤ 500) (hb : ∀ i, b i < 256) (hm : mk ≤ 6) (h : TkR b n law j σ) (hS : LwR S σ) (hk : LwOk mk S) (hl : S.P.length ≤ j) (hM : MkR mk nm σ)
    (KE : ∀ e s, rLl (tok b n law) mk nm S j = .error e → FrS σ s → FaR e s → Q none s)
    (KO : ∀ S' j' s, rLl (tok b n law) mk nm S j = .ok (S', j') → j < j' → S'.P.length ≤ j' → LwOk mk S' → FrS σ s → TkR b n law j' s → LwR S' s → Q none s) : Cm Θ (d + 4) 262 [.ref 124] σ Q := by
  have hn13 : n ≤ 1300 := by omega
  obtain ⟨⟨k1, k2, k3, k4⟩, -, -⟩ := id hk
  obtain ⟨⟨h68, h69, h71⟩, hP, hrow⟩ := id hS
  have l8 : nI S.k = 8 ↔ S.k = 8 := nI_eq (b := 8) (by omega) (by omega)
  refine K262 (B262_0 ?_)
  rw [h69, l8]
  refine ⟨fun q8 => ?_, fun q8 => ?_⟩
  rotate_left
  · refine c176 (f := 2) hn13 hb h (by omega) (by omega) fun s f t => ⟨rfl, B262_14 (c180f (d := d + 2) t ⟨rfl, fun z => absurd z (FaR_n t).1, fun _ => KE _ s ?_ (frS_T f) t⟩)⟩
    unfold rLl; rw [if_pos (by omega)]
  have q8 : S.k < 8 := by omega
  have eL : rLl (tok b n law) mk nm S j = andT (rW (tok b n law) 2003330414 j) fun j1 => andT (rLv (tok b n law) mk nm 48 0 0 (S.P, S.u, j1)) fun a => andT (rWN (tok b n law) 465557353332 0 240 a.2.2) fun c => andT (rWN (tok b n law) 1836020596 c.1 240 c.2) fun e => andT (rG (tok b n law) 59 e.2) fun j' => .ok (adL S a c.1 e.1, j') := by unfold rLl; rw [if_neg (by omega)]
  refine B262_14 ?_
  rw [w_when]
  refine c180 (d := d + 1) hn13 hb h (by decide) (fun e s he f t => ⟨rfl, fun z => absurd z (FaR_n t).1, fun _ => KE e s (by rw [eL, andT_er he]) (frS_T f) t⟩) fun s1 he1 f1 t1 => ⟨rfl, fun _ => ?_, fun z => absurd (TkR_0 t1).1 z⟩
  have g1 : ∀ y, 9 ≤ y → s1.1 124 y = σ.1 124 y := f1.2.1
  try dsimp only
  rw [g1 69 (by omega), h69, g1 68 (by omega), h68, nI_clamp (by omega)]
  refine ⟨vp_in_nI (by omega) (by decide), ?_⟩
  obtain ⟨s2, hs2⟩ : ∃ s2, s2 = sI (sI (sI s1 163 S.k (nI S.P.length)) 124 72 0) 124 73 0 := ⟨_, rfl⟩
  rw [← hs2]
  have F2 : FrS σ s2 := by rw [hs2]; exact frS_y (by omega) (frS_y (by omega) (frS_w (by omega) (frS_T f1)))
  have ox2 : ∀ x, x ≠ 124 → x ≠ 163 → s2.1 x = s1.1 x := fun x q1 q2 => by rw [hs2, sI_ne q1, sI_ne q1, sI_ne q2]
  have oy2 : ∀ y, y ≠ 72 → y ≠ 73 → s2.1 124 y = s1.1 124 y := fun y q1 q2 => by rw [hs2, sI_of _ _ (by omega), sI_of _ _ (by omega), sI_of _ _ (by omega)]
  have t2 : TkR b n law (j + 1) s2 := TkR_wr t1 (fun y hy => oy2 y (by omega) (by omega)) (by rw [hs2]; rfl) (ox2 125 (by decide) (by decide))
  have hR2 : RsW [] S.P S.u s2 := by
    refine ⟨⟨?_, ?_, True.intro⟩, ?_, ?_, ?_⟩
    · rw [hs2, sI_of _ _ (by omega), sI_at]; rfl
    · rw [hs2, sI_at]; rfl
    · rw [oy2 68 (by omega) (by omega), g1 68 (by omega)]; exact h68
    · rw [oy2 71 (by omega) (by omega), g1 71 (by omega)]; exact h71
    · exact rwR_fr (by rw [ox2 161 (by decide) (by decide), (f1.1 161 (by decide)).1]) (by rw [ox2 162 (by decide) (by decide), (f1.1 162 (by decide)).1]) hP
  have w163 : s2.1 163 S.k = nI S.P.length ∧ ∀ i, i ≠ S.k → s2.1 163 i = σ.1 163 i := by
    refine ⟨by rw [hs2, sI_of _ _ (by omega), sI_of _ _ (by omega), sI_at], fun i hi => ?_⟩
    rw [hs2, sI_of _ _ (by omega), sI_of _ _ (by omega), sI_of _ _ (by omega), (f1.1 163 (by decide)).1]
  refine p262 (d := d) hn hb hm 48 0 0 [] S.P S.u (j + 1) 0 s2 Q (by omega) (by omega) (by omega) rfl (Or.inl rfl) (fun c hc => by cases hc) (Or.inl rfl) (fun _ => rfl) (fun z => by omega) t2 hR2 (by show 0 + S.P.length ≤ j + 1; omega) k2 (MkR_S hM F2) (fun e s he f t => KE e s (by rw [eL, andT_ok he1, andT_er he]) (frS_tr F2 (frS_E f)) t) fun a pend O' s3 he3 ha hp hT f3 t3 hR3 hl3 => ?_
  rw [List.append_nil] at hR3 hl3
  have F3 := frS_tr F2 (frS_E f3)
  have hWp : WOk pend := fun c hc => by have := (hp c hc).1; omega
  have ho : opn (pend ++ []) = false := Bool.eq_false_iff.mpr fun z => by
    rw [List.append_nil, opn_iff] at z
    have := (hp 15 z).1; omega
  obtain ⟨r1, r2, r3, r4, q, eq, l, x, dq⟩ := id (rLv_ok (law := law) hn13 hb hm 48 0 0 _ a he3)
  have r3 : j + 1 < a.2.2 := r3
  have eq : a.1 = q ++ S.P := eq
  have l : q.length + (j + 1) ≤ a.2.2 := l
  have la : a.1.length ≤ a.2.2 := by rw [eq, List.length_append]; omega
  by_cases qL : (tok b n law a.2.2).1 = 1 ∧ (tok b n law a.2.2).2.2 = 465557353332
  rotate_left
  · refine c262e (W0 := []) hn hb t3 hT (by rw [List.append_nil]; exact hWp) (fun _ => ho) (Or.inl qL) (by rw [List.append_nil]; exact hR3) (by rw [List.append_nil]; omega) fun s f t => KE _ s ?_ (frS_tr F3 (frS_E f)) t
    rw [eL, andT_ok he1, andT_ok he3]
    have : rWN (tok b n law) 465557353332 0 240 a.2.2 = .error (flt 2 (tok b n law a.2.2)) := by
      unfold rWN; exact andT_er (if_neg qL)
    rw [andT_er this]
  have eW : rW (tok b n law) 465557353332 a.2.2 = .ok (a.2.2 + 1) := if_pos qL
  -- all that waits is noted
  have k104 : G Θ (d + 3 + 1) 262 104 [some (.ref 124), none] [] s3 Q := by
    refine B262_104 ⟨fun _ => ?_, fun z => absurd (TkR_0 t3).1 z⟩
    refine K255 (c255 (d := d + 1) (l := 0) (by omega) pend [] O' s3 (by rw [List.append_nil]; exact hWp) (fun c hc => ⟨by have := (hp c hc).1; omega, Nat.zero_le _⟩) (Or.inl rfl) (by rw [List.append_nil]; exact hR3) (by rw [List.append_nil]; omega) fun s4 f4 hR4 => ⟨rfl, ?_⟩)
    rw [← ha] at hR4
    have t4 := TkR_W t3 f4
    refine c175n (d := d + 2) hn13 hb t4 (by omega) fun s5 f5 t5 => ⟨rfl, ?_⟩
    have hR5 := RsW_T hR4 f5
    have F5 := frS_tr F3 (frS_tr (frS_E (frE_W f4)) (frS_T f5))
    have h69' : s5.1 124 69 = nI S.k := by
      rw [f5.2.1 69 (by omega), f4.2.1 69 (by omega) (by omega) (by omega) (by omega), f3.2.1 69 (by omega) (by omega) (by omega) (by omega) (by omega), oy2 69 (by omega) (by omega), g1 69 (by omega)]; exact h69
    have v8 := vp_in_nI q8 (show 8 < 2 ^ 31 by decide)
    try dsimp only
    rw [h69', nI_clamp (by omega)]
    refine c181 (d := d + 1) (lo := 0) (hi := 240) hn13 hb t5 (by decide) (by decide) (fun e s x he f t => ⟨_, rfl, v8, ?_⟩) fun s6 v3 he6 l3 l3' f6 t6 => ⟨_, rfl, v8, ?_⟩
    · have eE : rWN (tok b n law) 465557353332 0 240 a.2.2 = .error e := by unfold rWN; rw [andT_ok eW]; exact he
      refine c262h (d := d) (k := S.k) (x := 0) (y := 0) (z := 0) q8 (FaR_w (by omega) t) (by rw [sI_of _ _ (by omega), f.2.1 69 (by omega)]; exact h69') fun s' f' t' => KE e s' (by rw [eL, andT_ok he1, andT_ok he3, andT_er eE]) (frS_tr F5 (frS_tr (frS_w (by omega) (frS_T f)) f')) t'
    have e3 : rWN (tok b n law) 465557353332 0 240 a.2.2 = .ok (v3, a.2.2 + 1 + 1) := by unfold rWN; rw [andT_ok eW]; exact he6
    obtain ⟨u6, hu6⟩ : ∃ u, u = sI s6 164 S.k (nI v3) := ⟨_, rfl⟩
    rw [← hu6]
    have tu6 : TkR b n law (a.2.2 + 1 + 1) u6 := by rw [hu6]; exact TkR_w (by omega) t6
    have F6 : FrS σ u6 := by rw [hu6]; exact frS_w (by omega) (frS_tr F5 (frS_T f6))
    have h69u : u6.1 124 69 = nI S.k := by rw [hu6, sI_of _ _ (by omega), f6.2.1 69 (by omega)]; exact h69'
    rw [w_most]
    refine c180 (d := d + 1) hn13 hb tu6 (by decide) (fun e s he f t => ⟨rfl, ?_⟩) fun s7 he7 f7 t7 => ⟨rfl, ?_⟩
    · have eE : rWN (tok b n law) 1836020596 v3 240 (a.2.2 + 1 + 1) = .error e := by unfold rWN; rw [andT_er he]
      try dsimp only
      rw [f.2.1 69 (by omega), h69u]
      have t' : ∀ v, FaR e (sI s 165 (nI S.k).toNatClampNeg v) := fun v => FaR_w (by omega) t
      exact ⟨v8, c181f (d := d + 2) t ⟨_, rfl, v8, fun _ => c262f (t' 0) (KE e _ (by rw [eL, andT_ok he1, andT_ok he3, andT_ok e3, andT_er eE]) (frS_w (by omega) (frS_tr F6 (frS_T f))) (t' 0)), fun z => absurd z (FaR_n (t' 0)).2⟩⟩
    have h69v : s7.1 124 69 = nI S.k := by rw [f7.2.1 69 (by omega)]; exact h69u
    have w164 : s7.1 164 S.k = nI v3 := by rw [(f7.1 164 (by decide)).1, hu6, sI_at]
    try dsimp only
    rw [h69v, nI_clamp (by omega), w164]
    refine ⟨v8, ?_⟩
    refine c181 (d := d + 1) (lo := v3) (hi := 240) hn13 hb t7 (by omega) (by decide) (fun e s x he f t => ⟨_, rfl, v8, ?_⟩) fun s8 v4 he8 l4 l4' f8 t8 => ⟨_, rfl, v8, ?_⟩
    · have eE : rWN (tok b n law) 1836020596 v3 240 (a.2.2 + 1 + 1) = .error e := by unfold rWN; rw [andT_ok he7]; exact he
      have t' : FaR e (sI s 165 S.k x) := FaR_w (by omega) t
      exact ⟨fun _ => c262f t' (KE e _ (by rw [eL, andT_ok he1, andT_ok he3, andT_ok e3, andT_er eE]) (frS_w (by omega) (frS_tr F6 (frS_tr (frS_T f7) (frS_T f)))) t'), fun z => absurd z (FaR_n t').2⟩
    have e4 : rWN (tok b n law) 1836020596 v3 240 (a.2.2 + 1 + 1) = .ok (v4, a.2.2 + 1 + 1 + 1 + 1) := by unfold rWN; rw [andT_ok he7]; exact he8
    obtain ⟨u8, hu8⟩ : ∃ u, u = sI s8 165 S.k (nI v4) := ⟨_, rfl⟩
    rw [← hu8]
    have tu8 : TkR b n law (a.2.2 + 1 + 1 + 1 + 1) u8 := by rw [hu8]; exact TkR_w (by omega) t8
    have F8 : FrS σ u8 := by rw [hu8]; exact frS_w (by omega) (frS_tr F6 (frS_tr (frS_T f7) (frS_T f8)))
    rw [(TkR_st tu8).1, l59 hn13 hb]
    refine ⟨fun z => absurd (TkR_0 tu8).2 z, fun _ => ⟨fun q59 => ?_, fun q59 => ?_⟩⟩
    rotate_left
    · have eG : rG (tok b n law) 59 (a.2.2 + 1 + 1 + 1 + 1) = .error (flt 2 (tok b n law (a.2.2 + 1 + 1 + 1 + 1))) := if_neg q59
      exact c176 (f := 2) hn13 hb tu8 (by omega) (by omega) fun s f t => ⟨rfl, c262f t (KE _ s (by rw [eL, andT_ok he1, andT_ok he3, andT_ok e3, andT_ok e4, andT_er eG]) (frS_tr F8 (frS_T f)) t)⟩
    have eG : rG (tok b n law) 59 (a.2.2 + 1 + 1 + 1 + 1) = .ok (a.2.2 + 1 + 1 + 1 + 1 + 1) := if_pos q59
    refine B262_191 ⟨fun _ => ?_, fun z => absurd (TkR_0 tu8).1 z⟩
    refine c175n (d := d + 2) hn13 hb tu8 (by omega) fun s9 f9 t9 => ⟨rfl, ?_⟩
    have F9 := frS_tr F8 (frS_T f9)
    have h69w : s9.1 124 69 = nI S.k := by rw [f9.2.1 69 (by omega), hu8, sI_of _ _ (by omega), f8.2.1 69 (by omega)]; exact h69v
    have h68w : s9.1 124 68 = nI a.1.length := by
      rw [f9.2.1 68 (by omega), hu8, sI_of _ _ (by omega), f8.2.1 68 (by omega), f7.2.1 68 (by omega), hu6, sI_of _ _ (by omega), f6.2.1 68 (by omega)]; exact hR5.2.1
    have h71w : s9.1 124 71 = nI a.2.1 := by
      rw [f9.2.1 71 (by omega), hu8, sI_of _ _ (by omega), f8.2.1 71 (by omega), f7.2.1 71 (by omega), hu6, sI_of _ _ (by omega), f6.2.1 71 (by omega)]; exact hR5.2.2.1
    try dsimp only
    rw [h69w, nI_1]
    obtain ⟨u9, hu9⟩ : ∃ u, u = sI s9 124 69 (nI (S.k + 1)) := ⟨_, rfl⟩
    rw [← hu9]
    have e69 : u9.1 124 69 = nI (S.k + 1) := by rw [hu9, sI_at]
    have e68 : u9.1 124 68 = nI a.1.length := by rw [hu9, sI_of _ _ (by omega)]; exact h68w
    rw [e69, nI_clamp (by omega), e68]
    refine ⟨vp_in_nI (by omega) (by decide), ?_⟩
    obtain ⟨v, hv⟩ : ∃ v, v = sI u9 163 (S.k + 1) (nI a.1.length) := ⟨_, rfl⟩
    rw [← hv]
    have ox : ∀ x, x ≠ 124 → x ≠ 163 → v.1 x = s9.1 x := fun x q1 q2 => by rw [hv, sI_ne q2, hu9, sI_ne q1]
    have oy : ∀ y, y ≠ 69 → v.1 124 y = s9.1 124 y := fun y q => by rw [hv, sI_of _ _ (by omega), hu9, sI_of _ _ (by omega)]
    -- rows of the lines ahead
    have p163 : ∀ i, i ≤ S.k → v.1 163 i = s2.1 163 i := fun i hi => by
      rw [hv, sI_of _ _ (by omega), hu9, sI_of _ _ (by omega), (f9.1 163 (by decide)).1, hu8, sI_of _ _ (by omega), (f8.1 163 (by decide)).1, (f7.1 163 (by decide)).1, hu6, sI_of _ _ (by omega), (f6.1 163 (by decide)).1, (f5.1 163 (by decide)).1, (f4.1 163 (by decide)).1, (f3.1 163 (by decide)).1]
    have p164 : ∀ i, v.1 164 i = if i = S.k then nI v3 else σ.1 164 i := fun i => by
      rw [ox 164 (by decide) (by decide), (f9.1 164 (by decide)).1, hu8, sI_of _ _ (by omega), (f8.1 164 (by decide)).1, (f7.1 164 (by decide)).1, hu6]
      by_cases z : i = S.k
      · rw [if_pos z, z, sI_at]
      · rw [if_neg z, sI_of _ _ (by omega), (f6.1 164 (by decide)).1, (f5.1 164 (by decide)).1, (f4.1 164 (by decide)).1, (f3.1 164 (by decide)).1, ox2 164 (by decide) (by decide), (f1.1 164 (by decide)).1]
    have p165 : ∀ i, v.1 165 i = if i = S.k then nI v4 else σ.1 165 i := fun i => by
      rw [ox 165 (by decide) (by decide), (f9.1 165 (by decide)).1, hu8]
      by_cases z : i = S.k
      · rw [if_pos z, z, sI_at]
      · rw [if_neg z, sI_of _ _ (by omega), (f8.1 165 (by decide)).1, (f7.1 165 (by decide)).1, hu6, sI_of _ _ (by omega), (f6.1 165 (by decide)).1, (f5.1 165 (by decide)).1, (f4.1 165 (by decide)).1, (f3.1 165 (by decide)).1, ox2 165 (by decide) (by decide), (f1.1 165 (by decide)).1]
    have hok := ok_adL (a := a) (n := n) (j1 := j + 1) (lo := v3) (hh := v4) hk q8 ⟨r1, r2, r3, r4, q, eq, l, x, dq⟩ ⟨l4, l4'⟩ (by omega)
    refine KO (adL S a v3 v4) (a.2.2 + 1 + 1 + 1 + 1 + 1) v (by rw [eL, andT_ok he1, andT_ok he3, andT_ok e3, andT_ok e4, andT_ok eG]) (by omega) (by show a.1.length ≤ _; omega) hok ?_ ?_ ⟨⟨?_, ?_, ?_⟩, ?_, fun i hi => ?_⟩
    · rw [hv, hu9]; exact frS_w (by omega) (frS_y (by omega) F9)
    · exact TkR_wr t9 (fun y hy => oy y (by omega)) (by rw [hv, hu9]; rfl) (ox 125 (by decide) (by decide))
    · rw [oy 68 (by omega)]; exact h68w
    · rw [hv, sI_of _ _ (by omega)]; exact e69
    · rw [oy 71 (by omega)]; exact h71w
    · refine rwR_fr ?_ ?_ hR5.2.2.2
      · rw [ox 161 (by decide) (by decide), (f9.1 161 (by decide)).1, hu8, sI_ne (by decide), (f8.1 161 (by decide)).1, (f7.1 161 (by decide)).1, hu6, sI_ne (by decide), (f6.1 161 (by decide)).1]
      · rw [ox 162 (by decide) (by decide), (f9.1 162 (by decide)).1, hu8, sI_ne (by decide), (f8.1 162 (by decide)).1, (f7.1 162 (by decide)).1, hu6, sI_ne (by decide), (f6.1 162 (by decide)).1]
    · have hi : i < S.k + 1 := hi
      have bgl : (adL S a v3 v4).bg i = S.bg i := by
        unfold Lw.bg
        split
        · rfl
        · exact upN_ne (show i - 1 ≠ S.k by omega)
      rw [bgl, p164, p165, p163 i (by omega)]
      show (s2.1 163 i = nI (S.bg i) ∧ v.1 163 (i + 1) = nI (upN S.st S.k a.1.length i)) ∧ (if i = S.k then nI v3 else σ.1 164 i) = nI (upN S.lo S.k v3 i) ∧ (if i = S.k then nI v4 else σ.1 165 i) = nI (upN S.hi S.k v4 i)
      by_cases z : i = S.k
      · rw [if_pos z, if_pos z, z, upN_at, upN_at, upN_at]
        refine ⟨⟨by rw [w163.1, k4], by rw [hv, sI_at]⟩, rfl, rfl⟩
      · rw [if_neg z, if_neg z, upN_ne z, upN_ne z, upN_ne z]
        obtain ⟨⟨b1, b2⟩, b3, b4⟩ := hrow i (by omega)
        refine ⟨⟨by rw [w163.2 i z]; exact b1, ?_⟩, b3, b4⟩
        rw [p163 (i + 1) (by omega)]
        by_cases y : i + 1 = S.k
        · rw [y, w163.1, k4, ← y]; rfl
        · rw [w163.2 (i + 1) y]; exact b2
  refine B262_54 ⟨fun z => absurd (TkR_0 t3).2 z, fun _ => ⟨fun z => absurd rfl z, fun _ => ?_⟩⟩
  rw [w_least]
  refine ci (fun _ => c177 hn13 hb t3 (by decide)) ?_
  rw [if_pos qL]
  refine ⟨fun z => absurd z (by decide), fun _ => c256 hWp hR3 (by omega) ⟨_, rfl, fun _ => k104, fun z => ?_⟩⟩
  rw [List.append_nil] at ho
  rw [ho] at z; exact absurd rfl z
end rl4
