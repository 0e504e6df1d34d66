/-! CONTRACTS: the reference's line of a case -/
def lsX : List Nat := [129, 130, 131, 132, 133, 138]
theorem frN_X {σ σ' σ'' : Mem} (h : FrN σ σ') (h' : Fr lsX σ' σ'') : FrN σ σ'' := by
  have e := h' 124 (by decide)
  refine ⟨h.1.tr (h'.mono (by intro x hx; simp [lsX] at hx; simp [lsN]; omega)), fun y a c g f => by rw [e.1]; exact h.2.1 y a c g f, by rw [e.1]; exact h.2.2.1, by rw [e.1]; exact h.2.2.2.1, by rw [e.2.1]; exact h.2.2.2.2.1, by rw [e.2.2]; exact h.2.2.2.2.2⟩
section rc2
variable {Θ : Th} {d : Nat} {σ : Mem} {Q : Po} {b : Nat → Nat} {n : Nat} {law : Bool} {S : Rds}
/-- a word and the number behind it -/
theorem c180n {j w lo hi : Nat} {P : Int32 → Mem → Prop} (hn : n ≤ 1300) (hb : ∀ i, b i < 256) (h : TkR b n law j σ) (hw : w < 2 ^ 64) (h1 : lo < 1000) (h2 : hi < 1000)
    (KE : ∀ e σ' x, rWN (tok b n law) w lo hi j = .error e → FrT σ σ' → FaR e σ' → P x σ')
    (KO : ∀ σ' v, rWN (tok b n law) w lo hi j = .ok (v, j + 2) → lo ≤ v → v ≤ hi → FrT σ σ' → TkR b n law (j + 2) σ' → P (nI v) σ') : Cv Θ (d + 2) 180 [.ref 124, .long (jJ (w : Int))] σ (fun σ3 => Ci Θ (d + 2) 181 [.ref 124, .int (nI lo), .int (nI hi)] σ3 P) := by
  refine c180 (d := d) hn hb h hw (fun e s he f t => ⟨rfl, c181f (d := d + 1) t ⟨_, rfl, KE e s 0 (by unfold rWN; rw [andT_er he]) f t⟩⟩) fun s he f t => ⟨rfl, ?_⟩
  refine c181 (d := d) hn hb t h1 h2 (fun e s' x he' f' t' => ⟨_, rfl, KE e s' x (by unfold rWN; rw [andT_ok he]; exact he') (frT_tr f f') t'⟩) fun s' v he' l1 l2 f' t' => ⟨_, rfl, KO s' v (by unfold rWN; rw [andT_ok he]; exact he') l1 l2 (frT_tr f f') t'⟩
theorem c180b {e : Fa} {x : Int64} {y z : Int32} {P : Int32 → Mem → Prop} (h : FaR e σ) (K : P 0 σ) : Cv Θ (d + 2) 180 [.ref 124, .long x] σ (fun σ3 => Ci Θ (d + 2) 181 [.ref 124, .int y, .int z] σ3 P) :=
  c180f (d := d + 1) h ⟨rfl, c181f (d := d + 1) h ⟨_, rfl, K⟩⟩
theorem FaR_x {e : Fa} {s : Mem} (f : Fr lsX σ s) (h : FaR e σ) : FaR e s :=
  ⟨⟨by rw [(f 124 (by decide)).1]; exact h.1.1, by rw [(f 124 (by decide)).1]; exact h.1.2⟩, h.2⟩
def Z5 (Θ : Th) (d c : Nat) (x2 : Int64) (Q : Po) (s : Mem) : Prop := vp_in (nI c) 16 ∧ G Θ (d + 2 + 1) 188 97 [some (.ref 124), some (.int (nI c)), some (.long x2), none, some (.int 0)] [] s Q
def Z4 (Θ : Th) (d c : Nat) (x2 : Int64) (Q : Po) (s : Mem) : Prop := vp_in (nI c) 16 ∧ Cv Θ (d + 2) 180 [.ref 124, .long 131277443786868] s (fun σ3 => Ci Θ (d + 2) 181 [.ref 124, .int 1, .int 4] σ3 (fun v s => vp_in (nI c) 16 ∧ G Θ (d + 2 + 1) 188 97 [some (.ref 124), some (.int (nI c)), some (.long x2), none, some (.int 0)] [] (sI s 133 c v) Q))
def Z3 (Θ : Th) (d c : Nat) (x2 : Int64) (Q : Po) (s : Mem) : Prop := vp_in (nI c) 16 ∧ Cv Θ (d + 2) 180 [.ref 124, .long 444150998382] s (fun σ3 => Ci Θ (d + 2) 181 [.ref 124, .int 0, .int 240] σ3 (fun v s => Z4 Θ d c x2 Q (sI s 132 c v)))
def Z2 (Θ : Th) (d c : Nat) (x2 : Int64) (Q : Po) (s : Mem) : Prop := vp_in (nI c) 16 ∧ Cv Θ (d + 2) 180 [.ref 124, .long 26990] s (fun σ3 => Ci Θ (d + 2) 181 [.ref 124, .int 0, .int 99] σ3 (fun v s => Z3 Θ d c x2 Q (sI s 131 c v)))
theorem z5b {c : Nat} {x2 : Int64} {e : Fa} (hc : c < 16) (h : FaR e σ) (K : ∀ s, Fr lsX σ s → FaR e s → Q none s) : Z5 Θ d c x2 Q σ :=
  ⟨vp_in_nI hc (by decide), c188e hc h fun s f t => K s (f.mono (by intro x hx; simp at hx; simp [lsX]; omega)) t⟩
theorem z4b {c : Nat} {x2 : Int64} {e : Fa} (hc : c < 16) (h : FaR e σ) (K : ∀ s, Fr lsX σ s → FaR e s → Q none s) : Z4 Θ d c x2 Q σ :=
  ⟨vp_in_nI hc (by decide), c180b h (z5b (d := d) (x2 := x2) hc (FaR_w (by omega) h) fun s f t => K s ((Fr.rfl.I (by simp [lsX])).tr f) t)⟩
theorem z3b {c : Nat} {x2 : Int64} {e : Fa} (hc : c < 16) (h : FaR e σ) (K : ∀ s, Fr lsX σ s → FaR e s → Q none s) : Z3 Θ d c x2 Q σ :=
  ⟨vp_in_nI hc (by decide), c180b h (z4b (d := d) (x2 := x2) hc (FaR_w (by omega) h) fun s f t => K s ((Fr.rfl.I (by simp [lsX])).tr f) t)⟩
theorem z2b {c : Nat} {x2 : Int64} {e : Fa} (hc : c < 16) (h : FaR e σ) (K : ∀ s, Fr lsX σ s → FaR e s → Q none s) : Z2 Θ d c x2 Q σ :=
  ⟨vp_in_nI hc (by decide), c180b h (z3b (d := d) (x2 := x2) hc (FaR_w (by omega) h) fun s f t => K s ((Fr.rfl.I (by simp [lsX])).tr f) t)⟩
/-- a write into the row that is not yet counted -/
theorem RdR_row {l : Nat} {x : Int32} (hl : 130 ≤ l ∧ l ≤ 133) (hS : RdR S σ) : RdR S (sI σ l S.c x) := by
  obtain ⟨⟨a1, a2⟩, ⟨b1, b2, b3⟩, c1, c2⟩ := hS
  have ox : ∀ y, y ≠ l → (sI σ l S.c x).1 y = σ.1 y := fun y hy => sI_ne hy
  have oi : ∀ y i, i ≠ S.c → (sI σ l S.c x).1 y i = σ.1 y i := fun y i hi => sI_of _ _ (by omega)
  refine ⟨⟨by rw [ox 124 (by omega)]; exact a1, fun i hi => ?_⟩, ⟨by rw [ox 124 (by omega)]; exact b1, fun i hi => ?_, fun i k hi hk => ?_⟩, by rw [ox 124 (by omega)]; exact c1, fun i hi => ?_⟩
  · rw [ox 128 (by omega), ox 137 (by omega)]; exact a2 i hi
  · rw [oi 130 _ (by omega), oi 131 _ (by omega), oi 132 _ (by omega), oi 133 _ (by omega)]; exact b2 i hi
  · rw [ox 129 (by omega)]; exact b3 i k hi hk
  · rw [ox 134 (by omega), ox 135 (by omega), ox 136 (by omega)]; exact c2 i hi
theorem RdR_fx {s : Mem} (hS : RdR S σ) (f : Fr [129, 138] σ s) (h : ∀ i, (i < 6 * S.c ∨ 6 * S.c + 6 ≤ i) → s.1 129 i = σ.1 129 i) : RdR S s := by
  obtain ⟨⟨a1, a2⟩, ⟨b1, b2, b3⟩, c1, c2⟩ := hS
  have e : ∀ x, x ≠ 129 → x ≠ 138 → s.1 x = σ.1 x ∧ s.2.1 x = σ.2.1 x := fun x h1 h2 => ⟨(f x (by simp; omega)).1, (f x (by simp; omega)).2.1⟩
  refine ⟨⟨by rw [(e 124 (by decide) (by decide)).1]; exact a1, fun i hi => ?_⟩, ⟨by rw [(e 124 (by decide) (by decide)).1]; exact b1, fun i hi => ?_, fun i k hi hk => ?_⟩, by rw [(e 124 (by decide) (by decide)).1]; exact c1, fun i hi => ?_⟩
  · rw [(e 126 (by decide) (by decide)).2, (e 128 (by decide) (by decide)).1, (e 137 (by decide) (by decide)).1]; exact a2 i hi
  · rw [(e 127 (by decide) (by decide)).2, (e 130 (by decide) (by decide)).1, (e 131 (by decide) (by decide)).1, (e 132 (by decide) (by decide)).1, (e 133 (by decide) (by decide)).1]; exact b2 i hi
  · rw [h _ (by omega)]; exact b3 i k hi hk
  · rw [(e 134 (by decide) (by decide)).1, (e 135 (by decide) (by decide)).1, (e 136 (by decide) (by decide)).1]; exact c2 i hi
theorem c188 {j : Nat} (hn : n ≤ 1300) (hb : ∀ i, b i < 256) (h : TkR b n law j σ) (h4 : (tok b n law j).1 ≠ 4) (hS : RdR S σ) (hk : RdsOk S) (hc : S.c < 16)
    (KE : ∀ e σ', rCase0 (tok b n law) S j = .error e → FrN σ σ' → FaR e σ' → Q none σ')
    (KO : ∀ S' j' σ', rCase0 (tok b n law) S j = .ok (S', j') → j < j' → RdsOk S' → FrN σ σ' → TkR b n law j' σ' → RdR S' σ' → Q none σ') : Cm Θ (d + 3) 188 [.ref 124] σ Q := by
  have vm : vp_in (nI S.c) 16 := vp_in_nI hc (by decide)
  refine K188 (B188_0 ?_)
  refine c175n hn hb h h4 fun s1 f1 t1 => ⟨rfl, ?_⟩
  have hS1 := RdR_fr hS f1
  try dsimp only
  rw [hS1.2.1.1, nI_clamp (by omega)]
  refine c184 (d := d) hn hb t1 hS1 hk (fun e s2 x he f2 t2 => ⟨_, rfl, ?_⟩) fun s2 w he hw hw' f2 t2 => ⟨_, rfl, ?_⟩
  · refine c180b (d := d) t2 (z2b (d := d) hc (FaR_w (by omega) t2) fun s f t => KE e s ?_ (frN_X (frN_w (by omega) (frN_T (frT_tr f1 f2))) f) t)
    unfold rCase0; rw [andT_er he]
  have hS2 := RdR_fr hS1 f2
  have F2 := frN_T (frT_tr f1 f2)
  rw [w_judge]
  refine c180n (d := d) (lo := 0) (hi := 9) hn hb t2 (by decide) (by decide) (by decide) (fun e s3 x he3 f3 t3 => z2b (d := d) hc (FaR_w (by omega) t3) fun s f t => KE e s ?_ (frN_X (frN_w (by omega) (frN_tr F2 (frN_T f3))) f) t) fun s3 v1 he3 l1 l1' f3 t3 => ⟨vm, ?_⟩
  · unfold rCase0; rw [andT_ok he]
    have : rFacts (tok b n law) (j + 1 + 1) = .error e := by unfold rFacts; rw [andT_er he3]
    rw [andT_er this]
  have hS3 := RdR_row (l := 130) (x := nI v1) (by omega) (RdR_fr hS2 f3)
  have F3 := frN_w (l := 130) (k := S.c) (x := nI v1) (by omega) (frN_tr F2 (frN_T f3))
  have t3 := TkR_w (l := 130) (k := S.c) (x := nI v1) (by omega) t3
  have w3 : (sI s3 130 S.c (nI v1)).1 130 S.c = nI v1 := sI_at _ _ _ _
  obtain ⟨u3, hu3⟩ : ∃ u, u = sI s3 130 S.c (nI v1) := ⟨_, rfl⟩
  rw [← hu3] at hS3 F3 t3 w3 ⊢
  rw [w_in]
  refine c180n (d := d) (lo := 0) (hi := 99) hn hb t3 (by decide) (by decide) (by decide) (fun e s4 x he4 f4 t4 => z3b (d := d) hc (FaR_w (by omega) t4) fun s f t => KE e s ?_ (frN_X (frN_w (by omega) (frN_tr F3 (frN_T f4))) f) t) fun s4 v2 he4 l2 l2' f4 t4 => ⟨vm, ?_⟩
  · unfold rCase0; rw [andT_ok he]
    have : rFacts (tok b n law) (j + 1 + 1) = .error e := by unfold rFacts; rw [andT_ok he3, andT_er he4]
    rw [andT_er this]
  have hS4 := RdR_row (l := 131) (x := nI v2) (by omega) (RdR_fr hS3 f4)
  have F4 := frN_w (l := 131) (k := S.c) (x := nI v2) (by omega) (frN_tr F3 (frN_T f4))
  have t4 := TkR_w (l := 131) (k := S.c) (x := nI v2) (by omega) t4
  have w4 : (sI s4 131 S.c (nI v2)).1 130 S.c = nI v1 ∧ (sI s4 131 S.c (nI v2)).1 131 S.c = nI v2 := ⟨by rw [sI_of _ _ (by omega), (f4.1 130 (by decide)).1]; exact w3, sI_at _ _ _ _⟩
  obtain ⟨u4, hu4⟩ : ∃ u, u = sI s4 131 S.c (nI v2) := ⟨_, rfl⟩
  rw [← hu4] at hS4 F4 t4 w4 ⊢
  rw [w_given]
  refine c180n (d := d) (lo := 0) (hi := 240) hn hb t4 (by decide) (by decide) (by decide) (fun e s5 x he5 f5 t5 => z4b (d := d) hc (FaR_w (by omega) t5) fun s f t => KE e s ?_ (frN_X (frN_w (by omega) (frN_tr F4 (frN_T f5))) f) t) fun s5 v3 he5 l3 l3' f5 t5 => ⟨vm, ?_⟩
  · unfold rCase0; rw [andT_ok he]
    have : rFacts (tok b n law) (j + 1 + 1) = .error e := by unfold rFacts; rw [andT_ok he3, andT_ok he4, andT_er he5]
    rw [andT_er this]
  have hS5 := RdR_row (l := 132) (x := nI v3) (by omega) (RdR_fr hS4 f5)
  have F5 := frN_w (l := 132) (k := S.c) (x := nI v3) (by omega) (frN_tr F4 (frN_T f5))
  have t5 := TkR_w (l := 132) (k := S.c) (x := nI v3) (by omega) t5
  have w5 : (sI s5 132 S.c (nI v3)).1 130 S.c = nI v1 ∧ (sI s5 132 S.c (nI v3)).1 131 S.c = nI v2 ∧ (sI s5 132 S.c (nI v3)).1 132 S.c = nI v3 := ⟨by rw [sI_of _ _ (by omega), (f5.1 130 (by decide)).1]; exact w4.1, by rw [sI_of _ _ (by omega), (f5.1 131 (by decide)).1]; exact w4.2, sI_at _ _ _ _⟩
  obtain ⟨u5, hu5⟩ : ∃ u, u = sI s5 132 S.c (nI v3) := ⟨_, rfl⟩
  rw [← hu5] at hS5 F5 t5 w5 ⊢
  rw [w_weight]
  refine c180n (d := d) (lo := 1) (hi := 4) hn hb t5 (by decide) (by decide) (by decide) (fun e s6 x he6 f6 t6 => z5b (d := d) hc (FaR_w (by omega) t6) fun s f t => KE e s ?_ (frN_X (frN_w (by omega) (frN_tr F5 (frN_T f6))) f) t) fun s6 v4 he6 l4 l4' f6 t6 => ⟨vm, ?_⟩
  · unfold rCase0; rw [andT_ok he]
    have : rFacts (tok b n law) (j + 1 + 1) = .error e := by unfold rFacts; rw [andT_ok he3, andT_ok he4, andT_ok he5, andT_er he6]
    rw [andT_er this]
  have hS6 := RdR_row (l := 133) (x := nI v4) (by omega) (RdR_fr hS5 f6)
  have F6 := frN_w (l := 133) (k := S.c) (x := nI v4) (by omega) (frN_tr F5 (frN_T f6))
  have t6 := TkR_w (l := 133) (k := S.c) (x := nI v4) (by omega) t6
  have w6 : (sI s6 133 S.c (nI v4)).1 130 S.c = nI v1 ∧ (sI s6 133 S.c (nI v4)).1 131 S.c = nI v2 ∧ (sI s6 133 S.c (nI v4)).1 132 S.c = nI v3 ∧ (sI s6 133 S.c (nI v4)).1 133 S.c = nI v4 := ⟨by rw [sI_of _ _ (by omega), (f6.1 130 (by decide)).1]; exact w5.1, by rw [sI_of _ _ (by omega), (f6.1 131 (by decide)).1]; exact w5.2.1, by rw [sI_of _ _ (by omega), (f6.1 132 (by decide)).1]; exact w5.2.2, sI_at _ _ _ _⟩
  obtain ⟨u6, hu6⟩ : ∃ u, u = sI s6 133 S.c (nI v4) := ⟨_, rfl⟩
  rw [← hu6] at hS6 F6 t6 w6 ⊢
  have hF : rFacts (tok b n law) (j + 1 + 1) = .ok ((v1, v2, v3, v4), j + 1 + 1 + 2 + 2 + 2 + 2) := by unfold rFacts; rw [andT_ok he3, andT_ok he4, andT_ok he5, andT_ok he6]
  refine c188z hc fun s7 f7 e7 z7 => ?_
  have hS7 := RdR_fx hS6 f7 e7
  have F7 := frN_X F6 (f7.mono (by intro x hx; simp at hx; simp [lsX]; omega))
  have t7 : TkR b n law (j + 1 + 1 + 2 + 2 + 2 + 2) s7 := TkR_wr t6 (fun y _ => by rw [(f7 124 (by decide)).1]) (by rw [(f7 124 (by decide)).2.1]) (f7 125 (by decide)).1
  refine c188s (d := d) hn hb hk 8 0 (fun _ => false) (fun _ => 0) _ s7 rfl (Nat.zero_le _) (fun m hm => by cases hm) (fun m _ => ⟨fun _ => Nat.zero_le _, fun _ => rfl⟩) t7 hS7 hc (fun m hm => z7 m hm) (fun e s8 he8 f8 t8 => KE e s8 ?_ (frN_tr F7 f8) t8) fun st' j' s8 he8 hj hst f8 hy t8 hS8 hr8 => ?_
  · unfold rCase0; rw [andT_ok he, andT_ok hF, andT_er he8]
  refine B188_223 ⟨fun _ => ⟨vm, ?_⟩, fun z => absurd (TkR_0 t8).1 z⟩
  rw [nI_clamp (by omega), sL_I, hS8.2.1.1, nI_1]
  obtain ⟨u, hu⟩ : ∃ u, u = sI (sL s8 127 S.c (jJ ((w : Nat) : Int))) 124 25 (nI (S.c + 1)) := ⟨_, rfl⟩
  rw [← hu]
  have oI : ∀ x k, ¬ (x = 124 ∧ k = 25) → u.1 x k = s8.1 x k := fun x k q => by rw [hu, sI_of _ _ q, sL_I]
  have oL : ∀ x k, ¬ (x = 127 ∧ k = S.c) → u.2.1 x k = s8.2.1 x k := fun x k q => by rw [hu, sI_L, sL_of _ _ q]
  have oR : u.2.2 = s8.2.2 := by rw [hu]; rfl
  have ww : ∀ y, 130 ≤ y → y ≤ 133 → u.1 y S.c = u6.1 y S.c := fun y h1 h2 => by rw [oI _ _ (by omega), hy y h1 h2, (f7 y (by simp; omega)).1]
  have fN : FrN s8 u := by
    refine ⟨?_, fun y a c e f => oI _ _ (by omega), oI _ _ (by omega), oI _ _ (by omega), fun y a => oL _ _ (by omega), by rw [oR]⟩
    rw [hu]
    exact (Fr.rfl.L (by simp [lsN])).I (by simp [lsN])
  have hok := ok_addC (v := (v1, v2, v3, v4)) hk hc hw' ⟨l1', l2', l3', l4, l4'⟩ hst (ok_rNew he).2
  refine KO _ _ u ?_ (by omega) hok (frN_tr (frN_tr F7 f8) fN) (TkR_wr t8 (fun y hy => oI _ _ (by omega)) (oL _ _ (by omega)) (by funext k; exact oI _ _ (by omega))) ?_
  · unfold rCase0; rw [andT_ok he, andT_ok hF, andT_ok he8]
  obtain ⟨⟨a1, a2⟩, ⟨b1, b2, b3⟩, c1, c2⟩ := hS8
  refine ⟨⟨by rw [oI _ _ (by omega)]; exact a1, fun i hi => ?_⟩, ⟨by rw [hu, sI_at]; rfl, fun i hi => ?_, fun i m hi hm' => ?_⟩, by rw [oI _ _ (by omega)]; exact c1, fun i hi => ?_⟩
  · rw [oL _ _ (by omega), oI _ _ (by omega), oI _ _ (by omega)]; exact a2 i hi
  · have hi : i < S.c + 1 := hi
    show u.2.1 127 i = jJ ((upN S.cn S.c w i : Nat) : Int) ∧ u.1 130 i = nI (upN S.cj S.c v1 i) ∧ u.1 131 i = nI (upN S.cy S.c v2 i) ∧ u.1 132 i = nI (upN S.cg S.c v3 i) ∧ u.1 133 i = nI (upN S.cw S.c v4 i)
    by_cases z : i = S.c
    · rw [z, upN_at, upN_at, upN_at, upN_at, upN_at, ww 130 (by omega) (by omega), ww 131 (by omega) (by omega), ww 132 (by omega) (by omega), ww 133 (by omega) (by omega)]
      exact ⟨by rw [hu, sI_L, sL_at], w6.1, w6.2.1, w6.2.2.1, w6.2.2.2⟩
    · rw [upN_ne z, upN_ne z, upN_ne z, upN_ne z, upN_ne z, oL _ _ (by omega), oI _ _ (by omega), oI _ _ (by omega), oI _ _ (by omega), oI _ _ (by omega)]
      exact b2 i (by omega)
  · have hi : i < S.c + 1 := hi
    show u.1 129 (6 * i + m) = nI (upN S.cs S.c st' i m)
    rw [oI _ _ (by omega)]
    by_cases z : i = S.c
    · rw [z, upN_at]; exact hr8 m hm'
    · rw [upN_ne z]; exact b3 i m (by omega) hm'
  · rw [oI _ _ (by omega), oI _ _ (by omega), oI _ _ (by omega)]; exact c2 i hi
end rc2
